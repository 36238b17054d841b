import java.util.ArrayList;
import java.util.List;

/**
 * A call that is refused, or that only asks, leaves all as it was: a state with it and the
 * same state without it answer every question alike.
 */
public final class NothingChangedTest {
    private static final Due due = new Due();
    private static final int NOTHING = -1000;
    private static final int BAD = Integer.MAX_VALUE;

    private NothingChangedTest() {
    }

    public static void main(String[] args) {
        refusedByNumbers();
        refusedForRoom();
        asked();
        tapesAndTracks();
        badRules();
        emptyTrack();
        due.close();
    }

    private static Call call(String name, int... numbers) {
        return new Call(name, numbers);
    }

    private static void refusedByNumbers() {
        for (Run run : List.of(States.empty(), States.some(), States.full())) {
            due.promise("REFUSED by -1, a number that can't be");
            for (Call call : List.of(call("board", 64, 0), call("board", 0, -1),
                    call("dent", 0, 10, 0, 5, 0), call("dent", 0, 0, 8, 5, 0), call("dent", 0, 0, 0, 401, 0),
                    call("dent", 0, 0, 0, 0, 0), call("dent", 0, 0, 0, 5, 1001), call("dent", 0, -1, 0, 5, 0),
                    call("clear", 0, -1), call("clear", 0, 1001),
                    call("table", 8, 0, 99), call("table", -1, 0, 99), call("table", 7, 401, 99),
                    call("table", 7, 0, 101), call("table", 0, -1, 99), call("table", 0, 0, -1),
                    call("radar", 8, 0, 99), call("radar", 0, 8, 99), call("radar", 0, 0, 101),
                    call("radar", 0, 0, -2), call("radar", -1, 0, 99), call("radar", 0, -1, 99),
                    call("claim", 64, 0, 9, 9), call("claim", 0, -1, 9, 9), call("claim", 0, 0, 100001, 9),
                    call("claim", 0, 0, 9, 101), call("claim", 0, 0, -1, 9), call("claim", 0, 0, 9, -1))) {
                changesNothing(run, call, -1, true);
            }
        }
        due.promise("REFUSED by -2, there is no such BOARD");
        for (Run run : List.of(States.empty(), States.some())) {
            for (int board : new int[] {-1, 3, 29, 30, BAD}) {
                changesNothing(run, call("dent", board, 0, 0, 5, 0), -2, true);
                changesNothing(run, call("clear", board, 0), -2, true);
            }
        }
        changesNothing(States.full(), call("dent", 30, 0, 0, 5, 0), -2, true);
        changesNothing(States.full(), call("clear", 30, 0), -2, true);
    }

    private static void refusedForRoom() {
        due.promise("REFUSED by -5, no room");
        Run full = States.full();
        changesNothing(full, call("board", 1, 1), -5, true);
        changesNothing(full, call("dent", 0, 0, 0, 399, 0), -5, true);
        changesNothing(full, call("dent", 29, 9, 7, 399, 1000), -5, true);
        changesNothing(full, call("claim", 1, 1, 9, 9), -5, true);
    }

    private static void asked() {
        due.promise("a call that only asks");
        // a state whose latest telling call was refused, so that a lost status shows
        Run some = States.some().then(call("board", 64, 64));
        for (Call call : List.of(call("of", 0, 0, 5, 1), call("leaning", 1, 999), call("seen", 0, 3, 0),
                call("through", 0), call("within", 1), call("map", 1, 1, 4, 0), call("off", 1, 1, 4),
                call("fault"), call("judged", 0, 4), call("quarrel", 0, 6), call("count", 0), call("status"))) {
            unchanged(some, call);
        }
        for (Call call : List.of(call("of", 3, 0, 5, 1), call("of", 0, 10, 5, 1), call("of", 0, 0, 1001, 1),
                call("of", 0, 0, 5, 4), call("seen", 3, 0, 0), call("seen", 0, 1001, 0), call("seen", 0, 0, 3),
                call("through", 2), call("within", 3), call("map", 64, 0, 0, 0), call("map", 0, 64, 0, 0),
                call("map", 0, 0, 1001, 0), call("map", 0, 0, 0, 2), call("judged", 3, 0),
                call("judged", 0, 1001), call("quarrel", 3, 0), call("quarrel", 0, 1001), call("count", 6))) {
            changesNothing(some, call, HailPads.NONE, false);
        }
        for (Call call : List.of(call("leaning", 8, 0), call("leaning", 0, 1001), call("off", 64, 0, 0),
                call("off", 0, 64, 0), call("off", 0, 0, 1001))) {
            changesNothing(some, call, NOTHING, false);
        }
    }

    private static void tapesAndTracks() {
        due.promise("NONE of feed, end and track");
        Run some = States.some().then(call("board", 64, 64));
        Run full = States.full().then(call("board", 64, 64));
        for (Run run : List.of(some, full)) {
            for (int n : new int[] {-1, 201, BAD, Integer.MIN_VALUE}) {
                changesNothing(run, call("end", n), HailPads.NONE, false);
            }
            changesNothing(run, call("track", 101, 20, 0), HailPads.NONE, false);
            changesNothing(run, call("track", -1, 20, 0), HailPads.NONE, false);
            changesNothing(run, call("track", 0, 21, 0), HailPads.NONE, false);
            changesNothing(run, call("track", 0, -1, 0), HailPads.NONE, false);
            changesNothing(run, call("track", 0, 20, 1001), HailPads.NONE, false);
            changesNothing(run, call("track", 0, 20, -1), HailPads.NONE, false);
        }
        changesNothing(some, call("end", States.TAPE.length() + 1), HailPads.NONE, false);
        changesNothing(full, call("feed", 0, 0, 0, 0, 0), HailPads.NONE, false);
        changesNothing(full.then(call("end", 181)), call("feed", 0, 0, 0, 0, 0), HailPads.NONE, false);
        due.promise("end with all that the TAPE has");
        changesNothing(some, call("end", States.TAPE.length()), States.TAPE.length(), false);
        changesNothing(full, call("end", 200), 200, false);
    }

    private static void badRules() {
        due.promise("rules, -6: they stay, FAULT is told");
        for (String text : List.of("x", "loss 1 from 0; bear 0;", "loss 99 from 0; radar off 0; bear 50; loss 7")) {
            Run run = States.some().call("end", 0).text(text);
            Run read = run.then(call("rules"));
            HailPads pads = run.made();
            due.is(text, pads.rules(), -6);
            due.is("status", pads.status(), -6);
            due.is("the TAPE is empty", pads.count(4), 0);
            due.isTrue("FAULT", pads.fault() >= 0);
            due.isTrue("nothing else changed by " + text, Whole.of(run).equals(Whole.of(read)));
        }
    }

    private static void emptyTrack() {
        due.promise("track, 0: the latest is none then");
        Run some = States.some().then(call("board", 64, 64));
        Run none = some.then(call("track", 100, 20, 1000));
        HailPads pads = some.made();
        due.is("a TRACK ahead of it", pads.through(0), 0);
        due.is("track", pads.track(100, 20, 1000), 0);
        due.is("lower", pads.through(0), -1);
        due.is("other", pads.through(1), -1);
        for (int board = 0; board < 3; board++) {
            due.is("within " + board, pads.within(board), -1);
        }
        due.is("status", pads.status(), -1);
        due.isTrue("the TAPE", Whole.ofTape(some).equals(Whole.ofTape(none)));
    }

    private static void changesNothing(Run run, Call call, int answer, boolean tells) {
        HailPads pads = run.made();
        due.is(call.toString(), call.on(pads), answer);
        if (tells) {
            due.is("status after " + call, pads.status(), answer);
            same(run, call);
        } else {
            unchanged(run, call);
        }
    }

    private static void unchanged(Run run, Call call) {
        HailPads pads = run.made();
        int status = pads.status();
        call.on(pads);
        due.is("status stays after " + call, pads.status(), status);
        same(run, call);
    }

    private static void same(Run run, Call call) {
        Run longer = run.then(call);
        List<Integer> fault = new ArrayList<>(run.answers(List.of(call("fault"))));
        due.isTrue("FAULT after " + call, fault.equals(longer.answers(List.of(call("fault")))));
        due.isTrue("all after " + call, Whole.of(run).equals(Whole.of(longer)));
        due.isTrue("the TAPE after " + call, Whole.ofTape(run).equals(Whole.ofTape(longer)));
    }
}
