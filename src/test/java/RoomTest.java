import java.util.List;

/**
 * Nothing there, and all full; which refusal comes first; what count and status say; and an
 * object's last promised call.
 */
public final class RoomTest {
    private static final Due due = new Due();
    private static final int NOTHING = -1000;

    private RoomTest() {
    }

    public static void main(String[] args) {
        newObject();
        newObjectsAreAlone();
        boards();
        dents();
        claims();
        firstRefusal();
        fullAsksNothingElse();
        counts();
        countsOfRefused();
        statusOfEach();
        statusOfOthers();
        lastCall();
        due.close();
    }

    private static void newObject() {
        due.promise("1: no BOARDS, RULES; nothing else either");
        for (int what = 0; what <= 5; what++) {
            due.is("count " + what, new HailPads().count(what), 0);
        }
        due.is("status", new HailPads().status(), 0);
        due.is("fault", new HailPads().fault(), -1);
        for (Call call : List.of(new Call("of", 0, 0, 0, 0), new Call("of", 0, 0, 0, 3), new Call("seen", 0, 0, 0),
                new Call("seen", 0, 0, 1), new Call("seen", 0, 0, 2), new Call("through", 0), new Call("through", 1),
                new Call("within", 0), new Call("map", 0, 0, 0, 0), new Call("map", 0, 0, 0, 1),
                new Call("judged", 0, 0), new Call("quarrel", 0, 0), new Call("end", 1))) {
            due.is(call.toString(), call.on(new HailPads()), -1);
        }
        due.is("leaning", new HailPads().leaning(0, 0), 0);
        due.is("track", new HailPads().track(0, 0, 0), 0);
        due.is("off", new HailPads().off(0, 0, 0), NOTHING);
        due.is("end", new HailPads().end(0), 0);
        due.is("rules", new HailPads().rules(), 0);
        due.is("dent", new HailPads().dent(0, 0, 0, 1, 0), -2);
        due.is("clear", new HailPads().clear(0, 0), -2);
        due.is("board", new HailPads().board(0, 0), 0);
        due.is("claim", new HailPads().claim(0, 0, 0, 0), 0);
    }

    private static void newObjectsAreAlone() {
        due.promise("1: a new object has nothing of another one");
        HailPads full = States.full().made();
        HailPads fresh = new HailPads();
        for (int what = 0; what <= 5; what++) {
            due.is("count " + what, fresh.count(what), 0);
        }
        due.is("board", fresh.board(5, 5), 0);
        due.is("dent", fresh.dent(0, 0, 0, 400, 0), 1);
        due.is("the TABLE is its own", fresh.of(0, 0, 0, 2), 0);
        due.is("no TRACK", fresh.within(0), -1);
        due.is("the full one's BOARDS", full.count(0), 30);
        due.is("the full one's DENTS", full.count(1), 300);
    }

    private static void boards() {
        due.promise("I: BOARDS 0 .. 29 (30 at most)");
        HailPads pads = new HailPads();
        for (int b = 0; b < 30; b++) {
            due.is("number " + b, pads.board(63 - b, b), b);
            due.is("count", pads.count(0), b + 1);
            due.is("there", pads.seen(b, 0, 2), 0);
            due.is("the next is not", pads.seen(b + 1, 0, 2), -1);
        }
        due.is("the 31st", pads.board(0, 0), -5);
        due.is("status", pads.status(), -5);
        due.is("again", pads.board(0, 0), -5);
        due.is("30 stay", pads.count(0), 30);
        due.is("BOARD 30 is not there", pads.seen(30, 0, 2), -1);
        due.is("BOARD 29 takes a dent", pads.dent(29, 0, 0, 1, 0), 1);
        due.is("BOARD 30 does not", pads.dent(30, 0, 0, 1, 0), -2);
        pads.clear(0, 0);
        due.is("BOARD 0 is where it was: 63, 0", pads.map(63, 0, 0, 1), 90);
    }

    private static void dents() {
        due.promise("I: DENTS, 300 at most");
        HailPads pads = new HailPads();
        pads.board(0, 0);
        pads.board(1, 1);
        for (int d = 1; d <= 300; d++) {
            due.is("how many were told", pads.dent(d % 2, 0, 0, d, 0), d);
        }
        due.is("the 301st", pads.dent(0, 0, 0, 7, 0), -5);
        due.is("status", pads.status(), -5);
        due.is("another BOARD, number and HAND", pads.dent(1, 9, 7, 7, 1000), -5);
        due.is("300 stay", pads.count(1), 300);
        due.is("the 300th", pads.of(0, 0, 0, 0), 300);
        due.is("the 299th", pads.of(1, 0, 0, 0), 299);
        due.is("no other dent", pads.of(1, 9, 1000, 0), -1);
        due.is("a BOARD can still be told", pads.board(2, 2), 2);
        due.is("and be CLEAR", pads.clear(2, 0), 0);
        due.is("but has no room for dents", pads.dent(2, 0, 0, 7, 0), -5);
    }

    private static void claims() {
        due.promise("V: CLAIMS 0 .. 39 (40 at most)");
        HailPads pads = new HailPads();
        pads.clear(pads.board(0, 0), 0);
        Texts.rules(pads, "loss 100 from 0");
        for (int c = 0; c < 40; c++) {
            due.is("number " + c, pads.claim(c, 63 - c, 1000 + c, 100), c);
            due.is("count", pads.count(3), c + 1);
            due.is("the next is not there", pads.judged(c + 1, 0), -1);
        }
        due.is("the 41st", pads.claim(0, 0, 0, 0), -5);
        due.is("status", pads.status(), -5);
        due.is("40 stay", pads.count(3), 40);
        due.is("CLAIM 40 is not there", pads.judged(40, 0), -1);
        for (int c = 0; c < 40; c++) {
            due.is("CLAIM " + c, pads.judged(c, 0), 1000 + c);
        }
    }

    private static void firstRefusal() {
        due.promise("I: REFUSED by the first of these in that order");
        HailPads pads = States.full().made();
        due.is("board: no room", pads.board(0, 0), -5);
        due.is("board: x can't be, no room", pads.board(64, 0), -1);
        due.is("board: y can't be, no room", pads.board(0, -1), -1);
        due.is("dent: no room", pads.dent(0, 0, 0, 1, 0), -5);
        due.is("dent: no such BOARD, no room", pads.dent(30, 0, 0, 1, 0), -2);
        due.is("dent: number can't be, no room", pads.dent(0, 10, 0, 1, 0), -1);
        due.is("dent: HAND can't be, no room", pads.dent(0, 0, 8, 1, 0), -1);
        due.is("dent: width can't be, no room", pads.dent(0, 0, 0, 0, 0), -1);
        due.is("dent: HOUR can't be, no room", pads.dent(0, 0, 0, 1, 1001), -1);
        due.is("dent: number, no such BOARD, no room", pads.dent(30, 10, 0, 1, 0), -1);
        due.is("dent: HAND, no such BOARD, no room", pads.dent(30, 0, -1, 1, 0), -1);
        due.is("dent: width, no such BOARD, no room", pads.dent(30, 0, 0, 401, 0), -1);
        due.is("dent: HOUR, no such BOARD, no room", pads.dent(30, 0, 0, 1, -1), -1);
        due.is("clear: no such BOARD", pads.clear(30, 0), -2);
        due.is("clear: HOUR, no such BOARD", pads.clear(30, 1001), -1);
        due.is("claim: no room", pads.claim(0, 0, 0, 0), -5);
        due.is("claim: x can't be, no room", pads.claim(-1, 0, 0, 0), -1);
        due.is("claim: y can't be, no room", pads.claim(0, 64, 0, 0), -1);
        due.is("claim: worth can't be, no room", pads.claim(0, 0, 100001, 0), -1);
        due.is("claim: part can't be, no room", pads.claim(0, 0, 0, 101), -1);
        HailPads few = States.some().made();
        due.is("dent: no such BOARD", few.dent(3, 0, 0, 1, 0), -2);
        due.is("dent: HOUR, no such BOARD", few.dent(3, 0, 0, 1, 1001), -1);
    }

    private static void fullAsksNothingElse() {
        due.promise("5 table, 13 radar, 4 clear: told as often as one likes");
        HailPads pads = new HailPads();
        pads.board(0, 0);
        for (int k = 0; k < 100; k++) {
            due.is("table", pads.table(k % 8, k, k), 0);
            due.is("radar", pads.radar(k % 8, 7, k), 0);
            due.is("clear", pads.clear(0, 1000 - k), 0);
        }
        due.is("8 squares", pads.count(5), 8);
    }

    private static void counts() {
        due.promise("22 count");
        int[] what = {0, 1, 2, 3, 4, 5};
        int[] some = {3, 33, 4, 3, States.TAPE.length(), 64};
        int[] full = {30, 300, 4, 40, 200, 1};
        for (int k : what) {
            due.is("empty " + k, States.empty().made().count(k), 0);
            due.is("some " + k, States.some().made().count(k), some[k]);
            due.is("full " + k, States.full().made().count(k), full[k]);
        }
        HailPads pads = new HailPads();
        pads.board(0, 0);
        pads.dent(0, 0, 0, 5, 1000);
        pads.dent(0, 0, 0, 5, 1000);
        due.is("DENTS told, alike ones too", pads.count(1), 2);
    }

    private static void countsOfRefused() {
        due.promise("22 count: what was refused does not count");
        HailPads pads = States.some().made();
        pads.board(64, 0);
        pads.dent(3, 0, 0, 1, 0);
        pads.claim(0, 0, 0, 101);
        pads.radar(0, 8, 1);
        pads.end(41);
        due.is("BOARDS", pads.count(0), 3);
        due.is("DENTS", pads.count(1), 33);
        due.is("CLAIMS", pads.count(3), 3);
        due.is("bytes", pads.count(4), States.TAPE.length());
        due.is("squares", pads.count(5), 64);
    }

    private static void statusOfEach() {
        due.promise("23 status: what the latest call was REFUSED by; 0 if it was not");
        Call[] refused = {new Call("board", 64, 0), new Call("dent", 0, 0, 0, 0, 0), new Call("dent", 9, 0, 0, 1, 0),
            new Call("clear", 0, 1001), new Call("clear", 9, 0), new Call("table", 8, 0, 0),
            new Call("radar", 8, 0, 0), new Call("claim", 64, 0, 0, 0)};
        int[] why = {-1, -1, -2, -1, -2, -1, -1, -1};
        Call[] taken = {new Call("board", 63, 0), new Call("dent", 0, 0, 0, 1, 0), new Call("clear", 0, 1000),
            new Call("table", 7, 0, 0), new Call("radar", 7, 0, 0), new Call("radar", 7, 0, -1),
            new Call("claim", 63, 0, 0, 0)};
        for (int k = 0; k < refused.length; k++) {
            for (Call good : taken) {
                HailPads pads = States.some().made();
                due.is(refused[k].toString(), refused[k].on(pads), why[k]);
                due.is("status after " + refused[k], pads.status(), why[k]);
                due.isTrue(good.toString(), good.on(pads) >= 0);
                due.is("status after " + good, pads.status(), 0);
                refused[k].on(pads);
                due.is("status after " + refused[k] + " again", pads.status(), why[k]);
            }
            HailPads pads = States.some().made();
            refused[k].on(pads);
            due.is("rules", pads.rules(), 3);
            due.is("status after rules", pads.status(), 0);
            Texts.rules(pads, "x");
            due.is("status after refused rules", pads.status(), -6);
            refused[k].on(pads);
            due.is("status after " + refused[k], pads.status(), why[k]);
        }
        HailPads full = States.full().made();
        full.board(0, 0);
        due.is("no room for a BOARD", full.status(), -5);
        full.table(0, 0, 0);
        full.dent(0, 0, 0, 1, 0);
        due.is("no room for a DENT", full.status(), -5);
        full.table(0, 0, 0);
        full.claim(0, 0, 0, 0);
        due.is("no room for a CLAIM", full.status(), -5);
    }

    private static void statusOfOthers() {
        due.promise("23 status: of board, dent, clear, table, radar, rules, claim alone");
        Call[] others = {new Call("of", 9, 0, 0, 0), new Call("leaning", 9, 0), new Call("seen", 9, 0, 0),
            new Call("track", 101, 0, 0), new Call("track", 100, 0, 0), new Call("through", 2), new Call("within", 9),
            new Call("map", 64, 0, 0, 0), new Call("off", 64, 0, 0), new Call("feed", 0, 0, 0, 0, 0),
            new Call("end", 201), new Call("end", 0), new Call("fault"), new Call("judged", 9, 0),
            new Call("quarrel", 9, 0), new Call("count", 9), new Call("status")};
        for (Call other : others) {
            HailPads pads = States.some().made();
            other.on(pads);
            due.is("0 stays after " + other, pads.status(), 0);
            pads.clear(9, 0);
            other.on(pads);
            due.is("-2 stays after " + other, pads.status(), -2);
            Texts.rules(pads, "x");
            other.on(pads);
            due.is(other.name() + " after refused rules", pads.status(), -6);
        }
    }

    private static void lastCall() {
        due.promise("an object's 512th call");
        HailPads pads = new HailPads();
        for (int k = 1; k <= 511; k++) {
            pads.board(k % 64, k % 64);
        }
        due.is("511 calls of board, then", pads.count(0), 30);
        Run some = States.some();
        HailPads tracks = some.made();
        for (int k = 0; k < Run.MOST_CALLS - some.length(); k++) {
            due.is("track " + k, tracks.track(0, 20, k), 3);
        }
        HailPads feeds = new HailPads();
        for (int k = 0; k < 255; k++) {
            due.is("feed " + k, feeds.feed(0x62656172, 0x20352020, 0x20202020, 0x20202020, 0x20202020), 20);
            due.is("rules " + k, feeds.rules(), 1);
        }
        due.is("RULES", feeds.count(2), 1);
        due.is("the 512th", feeds.status(), 0);
    }
}
