import java.util.ArrayList;
import java.util.List;

/**
 * Every number of every call: the last one that is still taken and the first that isn't, on
 * both sides, and numbers that only look right once something has wrapped around.
 */
public final class NumbersTest {
    private static final Due due = new Due();
    private static final int NOTHING = -1000;

    private NumbersTest() {
    }

    public static void main(String[] args) {
        telling();
        asking();
        indexes();
        tapes();
        due.close();
    }

    /** Calls that are REFUSED; told() says what they answer when they are not. */
    private static void telling() {
        Run some = States.some();
        Call board = new Call("board", 5, 5);
        told(some, board, 3).by("x 0 .. 63", 0, 0, 63, -1).by("y 0 .. 63", 1, 0, 63, -1);
        Call dent = new Call("dent", 1, 3, 2, 50, 7);
        told(some, dent, 34).by("number 0 .. 9", 1, 0, 9, -1).by("HAND 0 .. 7", 2, 0, 7, -1)
                .by("width 1 .. 400", 3, 1, 400, -1).by("HOUR 0 .. 1000", 4, 0, 1000, -1)
                .by("BOARD, 3 of them", 0, 0, 2, -2);
        told(some, new Call("clear", 1, 7), 0).by("HOUR 0 .. 1000", 1, 0, 1000, -1)
                .by("BOARD, 3 of them", 0, 0, 2, -2);
        told(some, new Call("table", 3, 50, 20), 0).by("row 0 .. 7", 0, 0, 7, -1)
                .by("width 0 .. 400", 1, 0, 400, -1).by("SIZE 0 .. 100", 2, 0, 100, -1);
        told(some, new Call("radar", 3, 4, 20), 0).by("i 0 .. 7", 0, 0, 7, -1)
                .by("k 0 .. 7", 1, 0, 7, -1).by("SIZE 0 .. 100 or NONE", 2, -1, 100, -1);
        told(some, new Call("claim", 5, 5, 300, 40), 3).by("x 0 .. 63", 0, 0, 63, -1)
                .by("y 0 .. 63", 1, 0, 63, -1).by("worth 0 .. 100,000", 2, 0, 100000, -1)
                .by("hundredths 0 .. 100", 3, 0, 100, -1);
    }

    /** Calls that ask: where all is there, only a number that can't be gets no answer. */
    private static void asking() {
        Run some = States.some();
        asked(some, new Call("of", 1, 3, 7, 1)).by("number 0 .. 9", 1, 0, 9, -1)
                .by("HOUR 0 .. 1000", 2, 0, 1000, -1).by("what 0 .. 3", 3, 0, 3, -1);
        asked(some, new Call("leaning", 3, 7)).by("HAND 0 .. 7", 0, 0, 7, NOTHING)
                .by("HOUR 0 .. 1000", 1, 0, 1000, NOTHING);
        asked(some, new Call("seen", 1, 7, 1)).by("HOUR 0 .. 1000", 1, 0, 1000, -1)
                .by("what 0 .. 2", 2, 0, 2, -1);
        asked(some, new Call("track", 20, 3, 7)).by("SIZE 0 .. 100", 0, 0, 100, -1)
                .by("width 0 .. 20", 1, 0, 20, -1).by("HOUR 0 .. 1000", 2, 0, 1000, -1);
        asked(some, new Call("through", 0)).by("which 0, 1", 0, 0, 1, -1);
        for (int what = 0; what <= 1; what++) {
            asked(some, new Call("map", 10, 30, 7, what)).by("x 0 .. 63", 0, 0, 63, -1)
                    .by("y 0 .. 63", 1, 0, 63, -1).by("HOUR 0 .. 1000", 2, 0, 1000, -1)
                    .by("what 0, 1", 3, 0, 1, -1);
        }
        asked(some, new Call("off", 10, 30, 7)).by("x 0 .. 63", 0, 0, 63, NOTHING)
                .by("y 0 .. 63", 1, 0, 63, NOTHING).by("HOUR 0 .. 1000", 2, 0, 1000, NOTHING);
        asked(some, new Call("judged", 1, 7)).by("HOUR 0 .. 1000", 1, 0, 1000, -1);
        asked(some, new Call("quarrel", 1, 7)).by("HOUR 0 .. 1000", 1, 0, 1000, -1);
        asked(some, new Call("count", 3)).by("what 0 .. 5", 0, 0, 5, -1);
    }

    /** BOARDS and CLAIMS by their numbers: none there, three, and all that there can be. */
    private static void indexes() {
        Run[] runs = {States.empty(), States.some(), States.full()};
        int[] lastBoard = {-1, 2, 29};
        int[] lastClaim = {-1, 2, 39};
        for (int k = 0; k < runs.length; k++) {
            String boards = "BOARD 0 .. " + lastBoard[k];
            asked(runs[k], new Call("of", 0, 0, 7, 0)).by(boards, 0, 0, lastBoard[k], -1);
            asked(runs[k], new Call("seen", 0, 7, 2)).by(boards, 0, 0, lastBoard[k], -1);
            asked(runs[k], new Call("within", 0)).by(boards, 0, 0, lastBoard[k], -1);
            asked(runs[k], new Call("quarrel", 0, 7)).by(boards, 0, 0, lastBoard[k], -1);
            told(runs[k], new Call("clear", 0, 7), 0).by(boards, 0, 0, lastBoard[k], -2);
            asked(runs[k], new Call("judged", 0, 7)).by("CLAIM 0 .. " + lastClaim[k], 0, 0, lastClaim[k], -1);
        }
        told(States.empty(), new Call("dent", 0, 0, 0, 1, 0), 1).by("no BOARD", 0, 0, -1, -2);
    }

    private static void tapes() {
        for (int length : new int[] {0, 1, 19, 20, 21, 199, 200}) {
            Run run = new Run();
            for (int k = 0; k < length; k += 20) {
                run.call("feed", 0, 0, 0, 0, 0);
            }
            run.call("end", length);
            asked(run, new Call("end", 0)).by("n 0 .. " + length, 0, 0, length, -1);
        }
    }

    private static Numbers told(Run run, Call call, int taken) {
        return new Numbers(run, call, true, taken);
    }

    private static Numbers asked(Run run, Call call) {
        return new Numbers(run, call, false, 0);
    }

    /** One call in one state, of which one number after the other is moved to its ends. */
    private record Numbers(Run run, Call call, boolean tells, int taken) {
        Numbers by(String sentence, int which, int least, int most, int refused) {
            due.promise(call.name() + ", " + sentence);
            for (int number : within(least, most)) {
                HailPads pads = run.made();
                int answer = call.with(which, number).on(pads);
                if (tells) {
                    due.is(number + " is taken", answer, taken);
                    due.is("status after " + number, pads.status(), 0);
                } else {
                    due.isTrue(number + " has an answer, not " + answer, answer != refused && answer != -2);
                }
            }
            for (int number : outside(least, most)) {
                HailPads pads = run.made();
                due.is(number + " can't be", call.with(which, number).on(pads), refused);
                due.is("status after " + number, pads.status(), tells ? refused : 0);
            }
            return this;
        }
    }

    private static List<Integer> within(int least, int most) {
        List<Integer> numbers = new ArrayList<>();
        int step = Math.max(1, (most - least) / 100);
        for (int number = least; number <= most; number += step) {
            numbers.add(number);
        }
        if (most >= least) {
            numbers.add(most);
        }
        return numbers;
    }

    private static List<Integer> outside(int least, int most) {
        List<Integer> numbers = new ArrayList<>(List.of(least - 1, least - 2, most + 1, most + 2,
                Integer.MIN_VALUE, Integer.MIN_VALUE + 1, Integer.MAX_VALUE, Integer.MAX_VALUE - 1));
        // these are right in their low bits alone
        for (int shift = 8; shift < 32; shift++) {
            int number = Math.max(least, 0) + (1 << shift);
            if (number < least || number > most) {
                numbers.add(number);
            }
        }
        // and these times 8, 10 or 64
        numbers.add(1 << 29);
        numbers.add(429496730);
        numbers.add(-429496730);
        numbers.add(1 << 26);
        return numbers;
    }
}
