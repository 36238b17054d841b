/** Every promise of the document by hand-made runs: ordinary calls, the edges, wrong numbers. */
public final class PromisesTest {
    private static final Due due = new Due();
    private static final int NOTHING = -1000;
    private static final int[] FAR = {Integer.MIN_VALUE, -1, Integer.MAX_VALUE};

    private PromisesTest() {
    }

    public static void main(String[] args) {
        newObject();
        board();
        dent();
        clear();
        table();
        of();
        ofHours();
        leaning();
        leaningOfMany();
        trueWidthAtLeastOne();
        seen();
        track();
        trackChoice();
        throughAndWithin();
        map();
        mapNearest();
        mapSure();
        radar();
        off();
        feedAndEnd();
        rules();
        ruleFaults();
        ruleLimits();
        rulesStay();
        claim();
        judged();
        judgedLastAndGreatest();
        judgedNotYet();
        quarrel();
        lastOfAll();
        count();
        status();
        due.close();
    }

    /** Boards on a row, each with one dent of one hand, so that nothing leans. */
    private static HailPads withBoards(int... places) {
        HailPads pads = new HailPads();
        for (int k = 0; k + 1 < places.length; k += 2) {
            pads.board(places[k], places[k + 1]);
        }
        return pads;
    }

    /** A TABLE by which a dent n wide is a stone of n, for n = 0, 10, .. 70. */
    private static void tableByTens(HailPads pads) {
        for (int k = 0; k < 8; k++) {
            pads.table(k, 10 * k, 10 * k);
        }
    }

    private static void newObject() {
        due.promise("1 new");
        HailPads pads = new HailPads();
        for (int what = 0; what <= 5; what++) {
            due.is("count " + what, pads.count(what), 0);
        }
        due.is("status", pads.status(), 0);
        due.is("fault", pads.fault(), HailPads.NONE);
        due.is("through", pads.through(0), -1);
        due.is("within", pads.within(0), -1);
        due.is("seen", pads.seen(0, 0, 2), -1);
        due.is("leaning", pads.leaning(0, 0), 0);
        due.is("map", pads.map(0, 0, 1000, 0), -1);
        HailPads other = new HailPads();
        other.board(1, 1);
        due.is("objects share nothing", pads.count(0), 0);
        due.is("NONE", HailPads.NONE, -1);
    }

    private static void board() {
        due.promise("2 board");
        HailPads pads = new HailPads();
        due.is("first", pads.board(0, 63), 0);
        due.is("same place", pads.board(0, 63), 1);
        due.is("x 64", pads.board(64, 0), -1);
        due.is("y 64", pads.board(0, 64), -1);
        for (int bad : FAR) {
            due.is("x " + bad, pads.board(bad, 0), -1);
            due.is("y " + bad, pads.board(0, bad), -1);
        }
        for (int k = 2; k < 30; k++) {
            due.is("board " + k, pads.board(63, k), k);
        }
        due.is("31st", pads.board(1, 1), -5);
        due.is("31st, bad number first", pads.board(-1, 1), -1);
        due.is("count", pads.count(0), 30);
    }

    private static void dent() {
        due.promise("3 dent");
        HailPads pads = withBoards(1, 1);
        due.is("first", pads.dent(0, 0, 0, 1, 0), 1);
        due.is("edges", pads.dent(0, 9, 7, 400, 1000), 2);
        due.is("width 0", pads.dent(0, 0, 0, 0, 0), -1);
        due.is("width 401", pads.dent(0, 0, 0, 401, 0), -1);
        due.is("number 10", pads.dent(0, 10, 0, 1, 0), -1);
        due.is("hand 8", pads.dent(0, 0, 8, 1, 0), -1);
        due.is("hour 1001", pads.dent(0, 0, 0, 1, 1001), -1);
        for (int bad : FAR) {
            due.is("number", pads.dent(0, bad, 0, 1, 0), -1);
            due.is("hand", pads.dent(0, 0, bad, 1, 0), -1);
            due.is("width", pads.dent(0, 0, 0, bad, 0), -1);
            due.is("hour", pads.dent(0, 0, 0, 1, bad), -1);
            due.is("board", pads.dent(bad, 0, 0, 1, 0), -2);
            due.is("board and width", pads.dent(bad, 0, 0, 0, 0), -1);
        }
        due.is("board 1", pads.dent(1, 0, 0, 1, 0), -2);
        for (int k = 3; k <= 300; k++) {
            due.is("dent " + k, pads.dent(0, 0, 0, k, 0), k);
        }
        due.is("301st", pads.dent(0, 0, 0, 1, 0), -5);
        due.is("301st, no board", pads.dent(1, 0, 0, 1, 0), -2);
        due.is("301st, bad hour", pads.dent(1, 0, 0, 1, -1), -1);
        due.is("the last of all counts", pads.of(0, 0, 0, 0), 300);
    }

    private static void clear() {
        due.promise("4 clear");
        HailPads pads = withBoards(1, 1, 2, 2);
        due.is("first", pads.clear(0, 10), 0);
        due.is("before", pads.seen(0, 9, 2), 0);
        due.is("from then on", pads.seen(0, 10, 2), 1);
        due.is("later", pads.clear(0, 20), 0);
        due.is("the earliest stays", pads.seen(0, 10, 2), 1);
        due.is("earlier", pads.clear(0, 5), 0);
        due.is("the earliest", pads.seen(0, 5, 2), 1);
        due.is("still before", pads.seen(0, 4, 2), 0);
        due.is("the other", pads.seen(1, 1000, 2), 0);
        due.is("hour 1000", pads.clear(1, 1000), 0);
        due.is("then", pads.seen(1, 1000, 2), 1);
        due.is("hour 1001", pads.clear(0, 1001), -1);
        due.is("hour -1", pads.clear(0, -1), -1);
        due.is("both", pads.clear(2, 1001), -1);
        for (int bad : FAR) {
            due.is("board " + bad, pads.clear(bad, 0), -2);
        }
        due.is("board 2", pads.clear(2, 0), -2);
    }

    private static void table() {
        due.promise("5 table");
        HailPads pads = withBoards(1, 1);
        pads.dent(0, 0, 0, 50, 0);
        due.is("all rows 0", pads.of(0, 0, 0, 2), 0);
        due.is("row", pads.table(3, 50, 7), 0);
        due.is("just wide enough", pads.of(0, 0, 0, 2), 7);
        due.is("too wide", pads.table(3, 51, 7), 0);
        due.is("falls to a 0 row", pads.of(0, 0, 0, 2), 0);
        pads.table(2, 40, 9);
        pads.table(1, 40, 8);
        due.is("of alike the later row, not the one told later", pads.of(0, 0, 0, 2), 9);
        pads.table(4, 45, 1);
        due.is("the greatest width, not the greatest size", pads.of(0, 0, 0, 2), 1);
        for (int k = 0; k < 8; k++) {
            pads.table(k, 400, 100);
        }
        due.is("no row", pads.of(0, 0, 0, 2), 0);
        pads.dent(0, 0, 0, 400, 0);
        due.is("400", pads.of(0, 0, 0, 2), 100);
        due.is("row 8", pads.table(8, 0, 0), -1);
        due.is("width 401", pads.table(0, 401, 0), -1);
        due.is("size 101", pads.table(0, 0, 101), -1);
        for (int bad : FAR) {
            due.is("row", pads.table(bad, 0, 0), -1);
            due.is("width", pads.table(0, bad, 0), -1);
            due.is("size", pads.table(0, 0, bad), -1);
        }
        due.is("nothing changed", pads.of(0, 0, 0, 2), 100);
    }

    private static void of() {
        due.promise("6 of");
        HailPads pads = withBoards(1, 1, 2, 2);
        tableByTens(pads);
        pads.dent(0, 4, 5, 33, 7);
        pads.dent(1, 0, 5, 33, 0);
        due.is("raw", pads.of(0, 4, 7, 0), 33);
        due.is("true", pads.of(0, 4, 7, 1), 33);
        due.is("size", pads.of(0, 4, 7, 2), 30);
        due.is("hands", pads.of(0, 4, 7, 3), 1);
        for (int what = 0; what <= 3; what++) {
            due.is("not yet known", pads.of(0, 4, 6, what), -1);
            due.is("another number", pads.of(0, 3, 7, what), -1);
            due.is("another board", pads.of(1, 4, 7, what), -1);
            due.is("no board", pads.of(2, 4, 7, what), -1);
            due.is("hour 1001", pads.of(0, 4, 1001, what), -1);
            due.is("number 10 is not the next board's 0", pads.of(0, 10, 0, what), -1);
            for (int bad : FAR) {
                due.is("board", pads.of(bad, 4, 7, what), -1);
                due.is("number", pads.of(0, bad, 7, what), -1);
                due.is("hour", pads.of(0, 4, bad, what), -1);
            }
        }
        due.is("what 4", pads.of(0, 4, 7, 4), -1);
        due.is("what -1", pads.of(0, 4, 7, -1), -1);
        pads.dent(0, 4, 0, 10, 7);
        pads.dent(0, 4, 1, 20, 7);
        pads.dent(0, 4, 2, 90, 7);
        due.is("of four the lower of both", pads.of(0, 4, 7, 0), 20);
        due.is("four hands", pads.of(0, 4, 7, 3), 4);
        pads.dent(0, 4, 3, 95, 7);
        due.is("of five the third", pads.of(0, 4, 7, 0), 33);
    }

    private static void ofHours() {
        due.promise("6 of, told again");
        HailPads pads = withBoards(1, 1);
        pads.dent(0, 0, 0, 30, 5);
        pads.dent(0, 0, 0, 40, 3);
        due.is("hour 2", pads.of(0, 0, 2, 0), -1);
        due.is("hour 3", pads.of(0, 0, 3, 0), 40);
        due.is("told last, though known earlier", pads.of(0, 0, 5, 0), 40);
        pads.dent(0, 0, 0, 50, 8);
        due.is("not known yet", pads.of(0, 0, 7, 0), 40);
        due.is("known", pads.of(0, 0, 8, 0), 50);
        due.is("one hand", pads.of(0, 0, 8, 3), 1);
        pads.dent(0, 0, 0, 60, 8);
        due.is("a new dent is seen in an hour that was asked for", pads.of(0, 0, 8, 0), 60);
    }

    private static void leaning() {
        due.promise("7 leaning");
        HailPads pads = withBoards(1, 1);
        due.is("without", pads.leaning(7, 1000), 0);
        pads.dent(0, 0, 0, 100, 0);
        due.is("alone", pads.leaning(0, 0), 0);
        pads.dent(0, 0, 1, 120, 4);
        pads.dent(0, 0, 2, 150, 4);
        due.is("alone before", pads.leaning(0, 3), 0);
        due.is("below", pads.leaning(0, 4), -20);
        due.is("the middle one", pads.leaning(1, 4), 0);
        due.is("above", pads.leaning(2, 4), 30);
        due.is("another hand", pads.leaning(3, 4), 0);
        due.is("hand 8", pads.leaning(8, 0), NOTHING);
        due.is("hour 1001", pads.leaning(0, 1001), NOTHING);
        for (int bad : FAR) {
            due.is("hand", pads.leaning(bad, 0), NOTHING);
            due.is("hour", pads.leaning(0, bad), NOTHING);
        }
    }

    private static void leaningOfMany() {
        due.promise("7 leaning over dents");
        HailPads pads = withBoards(1, 1, 2, 2);
        // raw is always hand 0's, the lower of two
        int[] more = {9, 1, 5, 30};
        for (int k = 0; k < more.length; k++) {
            pads.dent(k / 2, k, 0, 100, 0);
            pads.dent(k / 2, k, 1, 100 + more[k], k);
        }
        due.is("of one", pads.leaning(1, 0), 9);
        due.is("of two the lower", pads.leaning(1, 1), 1);
        due.is("of three", pads.leaning(1, 2), 5);
        due.is("of four the lower", pads.leaning(1, 3), 5);
        pads.dent(1, 9, 1, 400, 3);
        due.is("one that it alone measured does not count", pads.leaning(1, 3), 5);
        due.is("but leans", pads.of(1, 9, 3, 1), 395);
        pads.dent(0, 0, 0, 200, 3);
        due.is("lower of 1, 5, 30 and 0", pads.leaning(1, 3), 1);
        due.is("and the other's 91, 0, 0, 0", pads.leaning(0, 3), 0);
        pads.dent(0, 3, 1, 1, 1);
        pads.dent(0, 3, 0, 2, 1);
        due.is("9, 1, 0: the middle", pads.leaning(1, 1), 1);
        pads.dent(0, 4, 1, 1, 1);
        pads.dent(0, 4, 2, 3, 1);
        due.is("9, 1, 0, 0: the lower", pads.leaning(1, 1), 0);
        HailPads below = withBoards(1, 1);
        below.dent(0, 0, 0, 10, 0);
        below.dent(0, 0, 1, 20, 0);
        below.dent(0, 0, 2, 30, 0);
        below.dent(0, 1, 0, 17, 0);
        below.dent(0, 1, 1, 20, 0);
        below.dent(0, 1, 2, 30, 0);
        due.is("of -10 and -3 the lower", below.leaning(0, 0), -10);
        due.is("true: 17 + 10, 20, 20", below.of(0, 1, 0, 1), 20);
    }

    private static void trueWidthAtLeastOne() {
        due.promise("6 of, TRUE width");
        HailPads pads = withBoards(1, 1);
        pads.dent(0, 0, 0, 1, 0);
        pads.dent(0, 0, 1, 400, 0);
        due.is("leaning", pads.leaning(1, 0), 399);
        pads.dent(0, 1, 1, 5, 0);
        due.is("raw", pads.of(0, 1, 0, 0), 5);
        due.is("true, at least 1", pads.of(0, 1, 0, 1), 1);
        pads.dent(0, 2, 1, 400, 0);
        due.is("true, just 1", pads.of(0, 2, 0, 1), 1);
        pads.table(0, 1, 6);
        due.is("size of it", pads.of(0, 1, 0, 2), 6);
    }

    private static void seen() {
        due.promise("8 seen");
        HailPads pads = withBoards(1, 1, 2, 2);
        tableByTens(pads);
        due.is("SIZE of an unseen one", pads.seen(0, 0, 0), -1);
        due.is("MANY of an unseen one", pads.seen(0, 0, 1), 0);
        due.is("unseen", pads.seen(0, 0, 2), 0);
        pads.clear(0, 0);
        due.is("SIZE of a clear one", pads.seen(0, 0, 0), 0);
        due.is("MANY of a clear one", pads.seen(0, 0, 1), 0);
        due.is("a clear one is seen", pads.seen(0, 0, 2), 1);
        pads.dent(0, 3, 0, 20, 1);
        pads.dent(0, 5, 0, 50, 1);
        pads.dent(0, 9, 1, 30, 2);
        pads.dent(0, 9, 2, 30, 2);
        due.is("clear, no dent known", pads.seen(0, 0, 0), 0);
        due.is("SIZE", pads.seen(0, 1, 0), 50);
        due.is("MANY", pads.seen(0, 1, 1), 2);
        due.is("MANY counts a dent of two hands once", pads.seen(0, 2, 1), 3);
        due.is("the other board", pads.seen(1, 2, 0), -1);
        pads.dent(1, 0, 0, 5, 7);
        due.is("seen by a dent", pads.seen(1, 7, 2), 1);
        due.is("not before", pads.seen(1, 6, 2), 0);
        due.is("SIZE 0 by the table", pads.seen(1, 7, 0), 0);
        due.is("what 3", pads.seen(0, 0, 3), -1);
        due.is("what -1", pads.seen(0, 0, -1), -1);
        due.is("board 2", pads.seen(2, 0, 2), -1);
        due.is("hour 1001", pads.seen(0, 1001, 2), -1);
        for (int bad : FAR) {
            due.is("board", pads.seen(bad, 0, 1), -1);
            due.is("hour", pads.seen(0, bad, 1), -1);
        }
    }

    private static void track() {
        due.promise("9 track");
        HailPads pads = withBoards(0, 0, 10, 0, 20, 0, 30, 1);
        tableByTens(pads);
        due.is("none hit", pads.track(0, 20, 0), 0);
        for (int b = 0; b < 3; b++) {
            pads.dent(b, 0, 0, 30, b);
        }
        due.is("one hit", pads.track(30, 0, 0), 0);
        due.is("no track then", pads.through(0), -1);
        due.is("two hit", pads.track(30, 0, 1), 2);
        due.is("three hit", pads.track(30, 0, 2), 3);
        due.is("SIZE above", pads.track(31, 0, 2), 0);
        pads.clear(3, 3);
        due.is("a clear one is hit from SIZE 0 on", pads.track(0, 1, 3), 4);
        due.is("not from SIZE 1 on", pads.track(1, 1, 3), 3);
        due.is("kept", pads.through(1), 1);
        due.is("size 101", pads.track(101, 0, 2), -1);
        due.is("width 21", pads.track(30, 21, 2), -1);
        due.is("hour 1001", pads.track(30, 0, 1001), -1);
        for (int bad : FAR) {
            due.is("size", pads.track(bad, 0, 2), -1);
            due.is("width", pads.track(30, bad, 2), -1);
            due.is("hour", pads.track(30, 0, bad), -1);
        }
        due.is("the latest stays", pads.through(0), 0);
        due.is("size 100", pads.track(100, 20, 1000), 0);
        due.is("the latest is none", pads.through(0), -1);
        HailPads alike = withBoards(5, 5, 5, 5);
        alike.clear(0, 0);
        alike.clear(1, 0);
        due.is("two at one place", alike.track(0, 20, 0), 0);
    }

    private static void trackChoice() {
        due.promise("9 track, which");
        HailPads pads = withBoards(0, 0, 0, 9, 9, 0, 9, 9);
        for (int b = 0; b < 4; b++) {
            pads.clear(b, 0);
        }
        due.is("all alike", pads.track(0, 0, 0), 2);
        due.is("lower", pads.through(0), 0);
        due.is("other", pads.through(1), 1);
        pads.board(18, 0);
        pads.clear(4, 0);
        due.is("three of them", pads.track(0, 0, 0), 3);
        due.is("the line with most", pads.through(1), 2);
        // (9, 9) and (9, 0) lie 4.02.. from the line through (0, 9) and (18, 0)
        due.is("width 6", pads.track(0, 6, 0), 4);
        due.is("its lower", pads.through(0), 1);
        due.is("its other", pads.through(1), 4);
        HailPads exact = withBoards(0, 0, 4, 3, 0, 5, 5, 0);
        for (int b = 0; b < 3; b++) {
            exact.clear(b, 0);
        }
        // (0, 5) lies 4 from the line through (0, 0) and (4, 3)
        due.is("just within", exact.track(0, 4, 0), 3);
        due.is("the first of alike ones", exact.through(1), 1);
        due.is("(5, 0) lies 3 from it", exact.within(3), 1);
        exact.track(0, 3, 0);
        due.is("just within 3", exact.within(3), 1);
        due.is("not hit, so not counted", exact.track(0, 3, 0), 2);
        exact.track(0, 2, 0);
        due.is("not within 2", exact.within(3), 0);
    }

    private static void throughAndWithin() {
        due.promise("10 through");
        HailPads pads = withBoards(3, 3, 10, 10, 20, 10, 30, 13);
        pads.clear(1, 0);
        pads.clear(2, 0);
        due.is("none yet", pads.through(0), -1);
        pads.track(0, 2, 0);
        due.is("lower", pads.through(0), 1);
        due.is("other", pads.through(1), 2);
        due.is("which 2", pads.through(2), -1);
        for (int bad : FAR) {
            due.is("which", pads.through(bad), -1);
        }
        due.promise("11 within");
        due.is("its own", pads.within(1), 1);
        due.is("not hit, too far", pads.within(0), 0);
        due.is("3 off", pads.within(3), 0);
        pads.track(0, 3, 0);
        due.is("3 off, width 3, not hit", pads.within(3), 1);
        due.is("no board", pads.within(4), -1);
        pads.board(60, 12);
        due.is("a board that came later", pads.within(4), 1);
        pads.track(0, 21, 0);
        due.is("refused: as it was", pads.within(3), 1);
        pads.clear(0, 5);
        due.is("as it was told", pads.within(0), 0);
        for (int bad : FAR) {
            due.is("board", pads.within(bad), -1);
        }
        pads.track(100, 3, 0);
        due.is("none then", pads.within(1), -1);
    }

    private static void map() {
        due.promise("12 map");
        HailPads pads = withBoards(10, 10, 13, 14);
        tableByTens(pads);
        due.is("no seen board", pads.map(10, 10, 0, 0), -1);
        due.is("SURE of no seen board", pads.map(10, 10, 0, 1), -1);
        pads.dent(0, 0, 0, 60, 1);
        due.is("not yet", pads.map(10, 10, 0, 0), -1);
        due.is("one board", pads.map(63, 63, 1, 0), 60);
        due.is("SURE there", pads.map(10, 10, 1, 1), 80);
        pads.dent(1, 0, 0, 20, 2);
        // 10000 and 10000 / 26 = 384: (600000 + 7680) / 10384 = 58.5
        due.is("two boards", pads.map(10, 10, 2, 0), 58);
        due.is("two boards, SURE", pads.map(10, 10, 2, 1), 50);
        due.is("what 2", pads.map(10, 10, 2, 2), -1);
        due.is("hour 1001", pads.map(10, 10, 1001, 0), -1);
        due.is("x 64", pads.map(64, 10, 2, 0), -1);
        due.is("y 64", pads.map(10, 64, 2, 0), -1);
        for (int bad : FAR) {
            due.is("x", pads.map(bad, 10, 2, 0), -1);
            due.is("y", pads.map(10, bad, 2, 0), -1);
            due.is("hour", pads.map(10, 10, bad, 0), -1);
            due.is("what", pads.map(10, 10, 2, bad), -1);
        }
    }

    private static void mapNearest() {
        due.promise("12 map, the nearest three");
        // all but the last lie 10 from (20, 20); the last lies 9 from it
        HailPads pads = withBoards(10, 20, 30, 20, 20, 10, 20, 30, 29, 20);
        tableByTens(pads);
        int[] width = {10, 20, 30, 70, 60};
        for (int b = 0; b < 5; b++) {
            pads.dent(b, 0, 0, width[b], b == 4 ? 1 : 0);
        }
        due.is("of alike the lower boards", pads.map(20, 20, 0, 0), 20);
        due.is("SURE", pads.map(20, 20, 0, 1), 40);
        // 10000 / 82 = 121 of 60, 99 of 10, 99 of 20: 10230 / 319 = 32.06
        due.is("a nearer one with a higher number", pads.map(20, 20, 1, 0), 32);
        due.is("its SURE", pads.map(20, 20, 1, 1), 14);
        // they come in from far to near: 25 off, 16, 9, 4 and 1
        HailPads falling = withBoards(5, 0, 4, 0, 3, 0, 2, 0, 1, 0);
        tableByTens(falling);
        for (int b = 0; b < 5; b++) {
            falling.dent(b, 0, 0, width[b], 0);
        }
        // 5000 of 60, 2000 of 70, 1000 of 30
        due.is("the last three", falling.map(0, 0, 0, 0), 58);
        due.is("their SURE", falling.map(0, 0, 0, 1), 56);
        // (4, 0) itself, and 1 off (5, 0) and (3, 0): 10000 of 20, 5000 of 10 and 30
        due.is("three of the first", falling.map(4, 0, 0, 0), 20);
        // the last one, 3 off, goes in between 2 and 9 off: 10000 / 2, 10000 / 5, 10000 / 10
        HailPads between = withBoards(1, 0, 0, 2, 9, 0, 3, 0);
        tableByTens(between);
        for (int b = 0; b < 4; b++) {
            between.dent(b, 0, 0, width[b], 0);
        }
        // 5000 of 10, 2000 of 20, 1000 of 70: 160000 / 8000
        due.is("the third is farther", between.map(0, 0, 0, 0), 20);
        due.is("its SURE", between.map(0, 0, 0, 1), 36);
        HailPads far = withBoards(0, 0);
        tableByTens(far);
        far.dent(0, 0, 0, 70, 0);
        due.is("WEIGHT 1", far.map(63, 63, 0, 0), 70);
    }

    private static void mapSure() {
        due.promise("12 map, SURE");
        HailPads pads = withBoards(0, 0, 0, 0, 0, 0);
        for (int b = 0; b < 3; b++) {
            pads.clear(b, b);
        }
        due.is("all there", pads.map(0, 0, 2, 1), 100);
        due.is("one missing", pads.map(0, 0, 1, 1), 90);
        due.is("two missing", pads.map(0, 0, 0, 1), 80);
        due.is("3.6 off is 3", pads.map(2, 3, 2, 1), 88);
        due.is("4 off", pads.map(0, 4, 2, 1), 84);
        due.is("24.9 off", pads.map(24, 6, 2, 1), 4);
        due.is("25 off", pads.map(25, 0, 2, 1), 0);
        due.is("at least 0", pads.map(63, 63, 0, 1), 0);
        due.is("SIZE 0", pads.map(63, 63, 0, 0), 0);
    }

    private static void radar() {
        due.promise("13 radar");
        HailPads pads = withBoards(0, 0);
        pads.clear(0, 0);
        due.is("told", pads.radar(7, 2, 100), 0);
        due.is("square of x and y", pads.off(56, 16, 0), 100);
        due.is("its end", pads.off(63, 23, 0), 100);
        due.is("beside", pads.off(55, 16, 0), NOTHING);
        due.is("above", pads.off(56, 24, 0), NOTHING);
        due.is("the other way round", pads.off(16, 56, 0), NOTHING);
        due.is("again", pads.radar(7, 2, 0), 0);
        due.is("SIZE 0 is told", pads.off(56, 16, 0), 0);
        due.is("one square", pads.count(5), 1);
        due.is("NONE", pads.radar(7, 2, -1), 0);
        due.is("not told any more", pads.off(56, 16, 0), NOTHING);
        due.is("NONE of an untold one", pads.radar(0, 0, -1), 0);
        due.is("no square", pads.count(5), 0);
        due.is("i 8", pads.radar(8, 0, 0), -1);
        due.is("k 8", pads.radar(0, 8, 0), -1);
        due.is("size 101", pads.radar(0, 0, 101), -1);
        due.is("size -2", pads.radar(0, 0, -2), -1);
        for (int bad : FAR) {
            due.is("i", pads.radar(bad, 0, 0), -1);
            due.is("k", pads.radar(0, bad, 0), -1);
        }
        due.is("size", pads.radar(0, 0, Integer.MIN_VALUE), -1);
        due.is("size", pads.radar(0, 0, Integer.MAX_VALUE), -1);
        due.is("nothing told", pads.count(5), 0);
    }

    private static void off() {
        due.promise("14 off");
        HailPads pads = withBoards(4, 4);
        tableByTens(pads);
        pads.radar(0, 0, 40);
        due.is("no map", pads.off(4, 4, 0), NOTHING);
        pads.dent(0, 0, 0, 50, 3);
        due.is("map", pads.off(4, 4, 3), -10);
        due.is("no map before", pads.off(4, 4, 2), NOTHING);
        pads.radar(0, 0, 60);
        due.is("above", pads.off(7, 0, 3), 10);
        due.is("no radar", pads.off(8, 0, 3), NOTHING);
        due.is("x 64", pads.off(64, 0, 3), NOTHING);
        due.is("y 64", pads.off(0, 64, 3), NOTHING);
        due.is("hour 1001", pads.off(4, 4, 1001), NOTHING);
        for (int bad : FAR) {
            due.is("x", pads.off(bad, 0, 3), NOTHING);
            due.is("y", pads.off(0, bad, 3), NOTHING);
            due.is("hour", pads.off(4, 4, bad), NOTHING);
        }
    }

    private static void feedAndEnd() {
        due.promise("15 feed");
        HailPads pads = new HailPads();
        int loss = Texts.four("loss", 0);
        int blank = Texts.four("    ", 0);
        for (int k = 1; k <= 10; k++) {
            due.is("feed " + k, pads.feed(blank, blank, blank, blank, blank), 20 * k);
        }
        due.is("more than 200", pads.feed(loss, loss, loss, loss, loss), -1);
        due.is("as it was", pads.count(4), 200);
        due.promise("16 end");
        due.is("201", pads.end(201), -1);
        due.is("200", pads.end(200), 200);
        due.is("181", pads.end(181), 181);
        due.is("182", pads.end(182), -1);
        due.is("no room for 20", pads.feed(loss, loss, loss, loss, loss), -1);
        due.is("180", pads.end(180), 180);
        due.is("room for 20", pads.feed(loss, loss, loss, loss, loss), 200);
        for (int bad : FAR) {
            due.is("end", pads.end(bad), -1);
        }
        due.is("0", pads.end(0), 0);
        due.is("empty", pads.count(4), 0);
        due.is("0 of none", pads.end(0), 0);
        due.is("1 of none", pads.end(1), -1);
        due.promise("15 feed, order of the bytes");
        due.is("feed", pads.feed(loss, Texts.four(" 10 ", 0), Texts.four("from", 0),
                Texts.four(" 20;", 0), Texts.four("bear", 0)), 20);
        due.is("feed behind", pads.feed(Texts.four(" 7  ", 0), blank, blank, blank, -1), 40);
        due.is("end", pads.end(23), 23);
        due.is("rules", pads.rules(), 2);
    }

    private static void rules() {
        due.promise("17 rules");
        HailPads pads = new HailPads();
        due.is("an empty tape", pads.rules(), 0);
        due.is("blanks", Texts.rules(pads, "   "), 0);
        due.is("loss", Texts.rules(pads, "loss 0 from 0"), 1);
        due.is("the tape is empty", pads.count(4), 0);
        due.is("count", pads.count(2), 1);
        due.is("sure", Texts.rules(pads, "loss 100 from 100 sure 100"), 1);
        due.is("radar", Texts.rules(pads, "radar off 100"), 1);
        due.is("bear", Texts.rules(pads, "bear 100"), 1);
        due.is("no blanks", Texts.rules(pads, "loss1from2sure3;radar off4;bear5"), 3);
        due.is("many blanks", Texts.rules(pads, "  loss   1 from  2 ;  bear  5  "), 2);
        due.is("zeros ahead", Texts.rules(pads, "bear 0000000000000000000000000100"), 1);
        due.is("the rules are these alone", pads.count(2), 1);
        due.is("blanks: no rules any more", Texts.rules(pads, " "), 0);
        due.is("count", pads.count(2), 0);
    }

    private static void fault(String text, int place) {
        HailPads pads = new HailPads();
        due.is("rules of '" + text + "'", Texts.rules(pads, text), -6);
        due.is("fault of '" + text + "'", pads.fault(), place);
        due.is("the tape is empty", pads.count(4), 0);
        due.is("no rules", pads.count(2), 0);
        due.is("status", pads.status(), -6);
    }

    private static void ruleFaults() {
        due.promise("18 fault");
        fault("loss", 4);
        fault("loss  ", 6);
        fault("loss 1", 6);
        fault("loss 1 from", 11);
        fault("loss 1 from 2 sure", 18);
        fault("loss 1 from 2;", 14);
        fault("loss 1 from 2;  ", 16);
        fault("radar", 5);
        fault("radar off", 9);
        fault("bear", 4);
        fault(";", 0);
        fault(" ;bear 1", 1);
        fault("bear 1;;bear 1", 7);
        fault("bear 1 bear 2", 7);
        fault("bear 1 2", 7);
        fault("loss x", 5);
        fault("loss 101 from 1", 5);
        fault("loss 1 from 101", 12);
        fault("loss 1 from 1 sure 101", 19);
        fault("radar off 101", 10);
        fault("bear 101", 5);
        fault("bear 4294967297", 5);
        fault("bear 18446744073709551617", 5);
        fault("bear -1", 5);
        fault("loss 1 form 2", 7);
        fault("loss 1 2", 7);
        fault("loss 1 from sure", 12);
        fault("loss 1 from 2 sure 3 sure 4", 21);
        fault("loss 1 from 2 shure 3", 14);
        fault("losss 1 from 2", 0);
        fault("los 1 from 2", 0);
        fault("lossz 1 from 2", 0);
        fault("lossa 1 from 2", 0);
        fault("loss 1 from 2 surez 3", 14);
        fault("radar 5", 6);
        fault("radaroff 5", 0);
        fault("radar of 5", 6);
        fault("radar offf 5", 6);
        fault("off 5", 0);
        fault("Bear 5", 0);
        fault("bear\t5", 4);
        fault("bear 5\n", 6);
        fault("bear 5" + (char) 255, 6);
        fault("bear 5" + (char) 0, 6);
        fault((char) 128 + "", 0);
        fault("7", 0);
        fault("bear 1 ; 7", 9);
        HailPads pads = new HailPads();
        due.is("ahead of any", pads.fault(), -1);
        Texts.rules(pads, "x");
        due.is("told", pads.fault(), 0);
        due.is("told again", pads.fault(), 0);
        Texts.rules(pads, "bear 1");
        due.is("none any more", pads.fault(), -1);
    }

    private static void ruleLimits() {
        due.promise("17 rules, how many");
        String twenty = "bear1;".repeat(19) + "bear 1";
        HailPads pads = new HailPads();
        due.is("20 rules", Texts.rules(pads, twenty), 20);
        due.is("21 rules", Texts.rules(pads, twenty + "; bear 2"), -6);
        due.is("its first token", pads.fault(), twenty.length() + 2);
        due.is("; behind the 20th", Texts.rules(pads, twenty + "; "), -6);
        due.is("the end", pads.fault(), twenty.length() + 2);
        due.is("a bad 21st", Texts.rules(pads, twenty + ";x"), -6);
        due.is("its place", pads.fault(), twenty.length() + 1);
        due.is("a fault in the 20th", Texts.rules(pads, "bear1;".repeat(19) + "bear;"), -6);
        due.is("there", pads.fault(), 118);
        due.is("20 stay", pads.count(2), 20);
        String whole = " ".repeat(194) + "bear 1";
        due.is("200 bytes", Texts.rules(pads, whole), 1);
        due.is("200 bytes, no end", Texts.rules(pads, " ".repeat(196) + "bear"), -6);
        due.is("the text's length", pads.fault(), 200);
        HailPads losses = withBoards(0, 0);
        losses.clear(0, 0);
        losses.claim(0, 0, 100, 100);
        // what is read ahead of a fault leaves no trace
        Texts.rules(losses, "loss 10 from 0");
        Texts.rules(losses, "loss 90 from 0; bear 3; radar off 0;");
        due.is("the former ones judge", losses.judged(0, 0), 10);
    }

    private static void rulesStay() {
        due.promise("17 rules, old ones");
        HailPads pads = withBoards(0, 0);
        pads.clear(0, 0);
        pads.radar(0, 0, 50);
        pads.claim(0, 0, 100, 100);
        Texts.rules(pads, "loss 80 from 0; radar off 40; bear 5");
        due.is("held back", pads.judged(0, 0), -2);
        Texts.rules(pads, "loss 70 from 0");
        due.is("nothing of the old ones", pads.judged(0, 0), 70);
        Texts.rules(pads, "bear 1");
        due.is("no loss", pads.judged(0, 0), 0);
        Texts.rules(pads, "loss 60 from 0");
        due.is("again", pads.judged(0, 0), 60);
    }

    private static void claim() {
        due.promise("19 claim");
        HailPads pads = new HailPads();
        due.is("first", pads.claim(0, 63, 0, 0), 0);
        due.is("edges", pads.claim(63, 0, 100000, 100), 1);
        due.is("x 64", pads.claim(64, 0, 0, 0), -1);
        due.is("y 64", pads.claim(0, 64, 0, 0), -1);
        due.is("worth", pads.claim(0, 0, 100001, 0), -1);
        due.is("said", pads.claim(0, 0, 0, 101), -1);
        for (int bad : FAR) {
            due.is("x", pads.claim(bad, 0, 0, 0), -1);
            due.is("y", pads.claim(0, bad, 0, 0), -1);
            due.is("worth", pads.claim(0, 0, bad, 0), -1);
            due.is("said", pads.claim(0, 0, 0, bad), -1);
        }
        for (int k = 2; k < 40; k++) {
            due.is("claim " + k, pads.claim(k, k, k, k), k);
        }
        due.is("41st", pads.claim(0, 0, 0, 0), -5);
        due.is("41st, bad number", pads.claim(0, 0, 0, -1), -1);
        due.is("count", pads.count(3), 40);
        due.is("the last can be judged", pads.judged(39, 0), -2);
        due.is("no more", pads.judged(40, 0), -1);
    }

    private static void judged() {
        due.promise("20 judged");
        HailPads pads = withBoards(10, 10, 10, 10, 10, 10);
        tableByTens(pads);
        pads.claim(10, 10, 999, 100);
        pads.claim(10, 10, 100000, 25);
        due.is("no map", pads.judged(0, 0), -2);
        for (int b = 0; b < 3; b++) {
            pads.dent(b, 0, 0, 30, 1);
        }
        due.is("not before", pads.judged(0, 0), -2);
        due.is("no rules", pads.judged(0, 1), 0);
        Texts.rules(pads, "loss 33 from 30");
        due.is("cut", pads.judged(0, 1), 329);
        due.is("no more than said", pads.judged(1, 1), 25000);
        Texts.rules(pads, "loss 33 from 31");
        due.is("SIZE below", pads.judged(0, 1), 0);
        Texts.rules(pads, "loss 33 from 30; bear 10");
        due.is("bear", pads.judged(0, 1), 229);
        due.is("bear of what is said", pads.judged(1, 1), 15000);
        Texts.rules(pads, "loss 33 from 30; bear 34");
        due.is("at least 0", pads.judged(0, 1), 0);
        Texts.rules(pads, "loss 33 from 30 sure 100; loss 7 from 0");
        due.is("SURE 100", pads.judged(0, 1), 329);
        pads.claim(11, 10, 100, 100);
        due.is("SURE 96", pads.judged(2, 1), 7);
        Texts.rules(pads, "loss 33 from 30 sure 97");
        due.is("sure 97", pads.judged(2, 1), 0);
        Texts.rules(pads, "loss 33 from 30 sure 96");
        due.is("sure 96", pads.judged(2, 1), 33);
        due.is("no claim", pads.judged(3, 1), -1);
        due.is("hour 1001", pads.judged(0, 1001), -1);
        for (int bad : FAR) {
            due.is("claim", pads.judged(bad, 1), -1);
            due.is("hour", pads.judged(0, bad), -1);
        }
        Texts.rules(pads, "loss 100 from 0");
        pads.claim(0, 0, 100000, 100);
        due.is("the most", pads.judged(3, 1), 100000);
    }

    private static void judgedLastAndGreatest() {
        due.promise("20 judged, last and greatest");
        HailPads pads = withBoards(10, 10);
        pads.clear(0, 0);
        pads.claim(10, 10, 100, 100);
        Texts.rules(pads, "loss 20 from 0; loss 50 from 0; loss 30 from 0");
        due.is("the greatest", pads.judged(0, 0), 50);
        Texts.rules(pads, "bear 9; loss 50 from 0; bear 2");
        due.is("the last bear", pads.judged(0, 0), 48);
        Texts.rules(pads, "bear 2; bear 9; loss 50 from 0; bear 0");
        due.is("bear 0", pads.judged(0, 0), 50);
        pads.radar(1, 1, 10);
        Texts.rules(pads, "radar off 5; loss 50 from 0; radar off 10");
        due.is("the last radar off", pads.judged(0, 0), 50);
        Texts.rules(pads, "radar off 10; loss 50 from 0; radar off 9");
        due.is("the last radar off, below", pads.judged(0, 0), -2);
        pads.claim(63, 63, 100, 100);
        Texts.rules(pads, "loss 50 from 0; loss 60 from 0 sure 1");
        due.is("without a sure, SURE 0 is enough", pads.judged(1, 0), 50);
        Texts.rules(pads, "loss 60 from 0 sure 0");
        due.is("sure 0", pads.judged(1, 0), 60);
    }

    private static void judgedNotYet() {
        due.promise("20 judged, radar");
        HailPads pads = withBoards(10, 10);
        tableByTens(pads);
        pads.dent(0, 0, 0, 50, 0);
        pads.claim(10, 10, 100, 100);
        pads.claim(16, 10, 100, 100);
        pads.radar(1, 1, 30);
        Texts.rules(pads, "loss 50 from 0");
        due.is("no radar off", pads.judged(0, 0), 50);
        Texts.rules(pads, "loss 50 from 0; radar off 20");
        due.is("just 20 below", pads.judged(0, 0), 50);
        Texts.rules(pads, "loss 50 from 0; radar off 19");
        due.is("20 below is above 19", pads.judged(0, 0), -2);
        due.is("another square", pads.judged(1, 0), 50);
        pads.radar(1, 1, 70);
        due.is("20 above is above 19", pads.judged(0, 0), -2);
        pads.radar(1, 1, 69);
        due.is("19 above is not", pads.judged(0, 0), 50);
        Texts.rules(pads, "loss 50 from 0; radar off 0");
        due.is("radar off 0", pads.judged(0, 0), -2);
        pads.radar(1, 1, -1);
        due.is("radar not told any more", pads.judged(0, 0), 50);
        pads.radar(1, 1, 50);
        due.is("OFF 0", pads.judged(0, 0), 50);
    }

    private static void quarrel() {
        due.promise("21 quarrel");
        HailPads pads = withBoards(1, 1, 2, 2);
        due.is("no dent", pads.quarrel(0, 0), 0);
        pads.dent(0, 0, 0, 100, 0);
        due.is("one hand", pads.quarrel(0, 0), 0);
        pads.dent(0, 0, 1, 90, 1);
        pads.dent(0, 1, 2, 10, 1);
        due.is("two hands", pads.quarrel(0, 1), 10);
        due.is("not across dents, and not before", pads.quarrel(0, 0), 0);
        pads.dent(0, 0, 2, 130, 2);
        due.is("three hands", pads.quarrel(0, 2), 40);
        pads.dent(0, 9, 6, 1, 3);
        pads.dent(0, 9, 7, 400, 3);
        due.is("the most of all dents", pads.quarrel(0, 3), 399);
        pads.dent(0, 9, 7, 2, 3);
        due.is("told again", pads.quarrel(0, 3), 40);
        due.is("the other board", pads.quarrel(1, 3), 0);
        pads.dent(1, 0, 0, 1, 3);
        pads.dent(1, 0, 1, 300, 3);
        due.is("its own quarrel", pads.quarrel(1, 3), 299);
        due.is("is not the first one's", pads.quarrel(0, 3), 40);
        due.is("no board", pads.quarrel(2, 3), -1);
        due.is("hour 1001", pads.quarrel(0, 1001), -1);
        for (int bad : FAR) {
            due.is("board", pads.quarrel(bad, 0), -1);
            due.is("hour", pads.quarrel(0, bad), -1);
        }
    }

    private static void lastOfAll() {
        due.promise("edges: the last board, number, hand, place");
        HailPads pads = new HailPads();
        for (int b = 0; b < 30; b++) {
            pads.board(b < 28 ? 0 : 63, b);
        }
        tableByTens(pads);
        pads.dent(29, 9, 7, 70, 0);
        pads.dent(29, 9, 6, 60, 0);
        due.is("raw", pads.of(29, 9, 0, 0), 60);
        due.is("leaning", pads.leaning(7, 0), 10);
        due.is("size", pads.seen(29, 0, 0), 60);
        due.is("many", pads.seen(29, 0, 1), 1);
        due.is("quarrel", pads.quarrel(29, 0), 10);
        pads.dent(28, 0, 5, 60, 0);
        due.is("track", pads.track(60, 0, 0), 2);
        due.is("lower", pads.through(0), 28);
        due.is("other", pads.through(1), 29);
        due.is("within", pads.within(29), 1);
        due.is("not within", pads.within(0), 0);
        due.is("radar", pads.radar(7, 7, 1), 0);
        due.is("off", pads.off(63, 63, 0), -59);
        due.is("radar of the first", pads.radar(0, 0, 61), 0);
        due.is("off of the first", pads.off(0, 0, 0), 1);
    }

    private static void count() {
        due.promise("22 count");
        HailPads pads = withBoards(1, 1, 2, 2);
        pads.dent(0, 0, 0, 1, 0);
        pads.dent(0, 0, 0, 1, 0);
        pads.dent(0, 0, 0, 1, 0);
        Texts.rules(pads, "bear 1; bear 2; bear 3; bear 4");
        for (int k = 0; k < 5; k++) {
            pads.claim(0, 0, 0, 0);
        }
        Texts.feed(pads, "123456");
        for (int k = 0; k < 7; k++) {
            pads.radar(k, 0, k);
            pads.radar(k, 0, 0);
        }
        for (int what = 0; what <= 5; what++) {
            due.is("count " + what, pads.count(what), what + 2);
        }
        due.is("count 6", pads.count(6), -1);
        for (int bad : FAR) {
            due.is("count", pads.count(bad), -1);
        }
        pads.dent(0, 0, 0, 0, 0);
        pads.board(64, 0);
        pads.claim(64, 0, 0, 0);
        due.is("refused boards", pads.count(0), 2);
        due.is("refused dents", pads.count(1), 3);
        due.is("refused claims", pads.count(3), 5);
    }

    private static void status() {
        due.promise("23 status");
        HailPads pads = new HailPads();
        due.is("ahead of any", pads.status(), 0);
        pads.board(64, 0);
        due.is("board", pads.status(), -1);
        due.is("asked again", pads.status(), -1);
        pads.board(0, 0);
        due.is("board taken", pads.status(), 0);
        pads.dent(1, 0, 0, 1, 0);
        due.is("dent", pads.status(), -2);
        pads.of(0, 0, 0, 0);
        pads.leaning(0, 0);
        pads.seen(0, 0, 0);
        pads.track(0, 0, 0);
        pads.through(0);
        pads.within(0);
        pads.map(0, 0, 0, 0);
        pads.off(0, 0, 0);
        pads.feed(0, 0, 0, 0, 0);
        pads.end(0);
        pads.fault();
        pads.judged(0, 0);
        pads.quarrel(0, 0);
        pads.count(0);
        due.is("others don't change it", pads.status(), -2);
        pads.dent(0, 0, 0, 1, 0);
        due.is("dent taken", pads.status(), 0);
        pads.clear(1, 0);
        due.is("clear", pads.status(), -2);
        pads.clear(0, 0);
        due.is("clear taken", pads.status(), 0);
        pads.table(8, 0, 0);
        due.is("table", pads.status(), -1);
        pads.table(0, 0, 0);
        due.is("table taken", pads.status(), 0);
        pads.radar(8, 0, 0);
        due.is("radar", pads.status(), -1);
        pads.radar(0, 0, -1);
        due.is("radar taken", pads.status(), 0);
        Texts.rules(pads, "x");
        due.is("rules", pads.status(), -6);
        pads.rules();
        due.is("rules taken", pads.status(), 0);
        pads.claim(0, 0, 0, 101);
        due.is("claim", pads.status(), -1);
        pads.claim(0, 0, 0, 100);
        due.is("claim taken", pads.status(), 0);
        pads.track(101, 0, 0);
        pads.end(500);
        pads.count(9);
        due.is("others' NONE is no refusal", pads.status(), 0);
        for (int k = 1; k < 40; k++) {
            pads.claim(0, 0, 0, 0);
        }
        pads.claim(0, 0, 0, 0);
        due.is("no room", pads.status(), -5);
    }
}
