import java.util.ArrayList;
import java.util.List;
import java.util.Random;

/**
 * Long runs of drawn calls (the same ones each time), each answer set beside that of
 * PlainPads; and no call may throw, whatever its numbers.
 */
public final class RandomRunsTest {
    private static final int RUNS = 250;
    private static final int CALLS = 512;

    private final Random random;
    private final HailPads pads = new HailPads();
    private final PlainPads plain = new PlainPads();
    private final List<String> calls = new ArrayList<>();
    // how the run is made: few or many boards, hands, hours, and how often a number is wrong
    private final int boards;
    private final int hands;
    private final int hours;
    private final int wrongOf;
    private final int grid;

    private RandomRunsTest(int seed) {
        random = new Random(seed);
        boards = 1 + random.nextInt(31);
        hands = 1 + random.nextInt(8);
        hours = random.nextBoolean() ? 4 : 1000;
        wrongOf = random.nextBoolean() ? 12 : 200;
        grid = random.nextBoolean() ? 6 : 64;
    }

    public static void main(String[] args) {
        for (int seed = 0; seed < RUNS; seed++) {
            if (!new RandomRunsTest(seed).run()) {
                System.exit(1);
            }
        }
        System.out.println(RUNS * CALLS + " drawn calls, all as due");
    }

    private boolean run() {
        for (int k = 0; k < 8; k++) {
            if (random.nextInt(4) > 0 && !same("table", k, random.nextInt(120), random.nextInt(101))) return false;
        }
        boolean boardsFirst = random.nextInt(4) > 0;
        for (int b = 0; b < boards; b++) {
            if (boardsFirst && !same("board", place(), place())) return false;
        }
        while (calls.size() < CALLS) {
            if (!oneCall()) return false;
        }
        return true;
    }

    private boolean oneCall() {
        int kind = random.nextInt(100);
        if (kind < 6) return random.nextInt(31) > boards || same("board", place(), place());
        if (kind < 40) return same("dent", board(), to(9, 0), hand(), width(), hour());
        if (kind < 42) return same("clear", board(), hour());
        if (kind < 43) return same("table", to(7, 0), to(400, 0), to(100, 0));
        if (kind < 52) return same("of", board(), to(9, 0), hour(), to(3, 0));
        if (kind < 56) return same("leaning", hand(), hour());
        if (kind < 61) return same("seen", board(), hour(), to(2, 0));
        if (kind < 64) return same("track", random.nextInt(4) == 0 ? 0 : to(100, 0), to(20, 0), hour());
        if (kind < 66) return same("through", to(1, 0));
        if (kind < 69) return same("within", board());
        if (kind < 74) return same("map", place(), place(), hour(), to(1, 0));
        if (kind < 77) return same("radar", to(7, 0), to(7, 0), to(100, -1));
        if (kind < 80) return same("off", place(), place(), hour());
        if (kind < 84) return text();
        if (kind < 87) return same("claim", place(), place(), to(100000, 0), to(100, 0));
        if (kind < 93) return same("judged", to(39, 0) % 8, hour());
        if (kind < 96) return same("quarrel", board(), hour());
        if (kind < 98) return same("count", to(5, 0));
        return same("status");
    }

    private boolean text() {
        String text = drawText();
        for (int at = 0; at < text.length(); at += 20) {
            if (!same("feed", Texts.four(text, at), Texts.four(text, at + 4), Texts.four(text, at + 8),
                    Texts.four(text, at + 12), Texts.four(text, at + 16))) return false;
        }
        if (random.nextInt(5) > 0 && !same("end", Math.min(200, text.length()))) return false;
        if (random.nextInt(8) == 0 && !same("end", to(200, 0))) return false;
        return random.nextInt(6) == 0 || same("rules") && same("fault") && same("count", 2);
    }

    private String drawText() {
        StringBuilder text = new StringBuilder();
        int rules = random.nextInt(8) == 0 ? 19 + random.nextInt(4) : random.nextInt(6);
        boolean tight = rules > 10;
        for (int k = 0; k < rules; k++) {
            if (k > 0) text.append(blanks(tight)).append(';').append(blanks(tight));
            int kind = tight ? 2 : random.nextInt(4);
            if (kind == 0) text.append("radar off").append(blanks(tight)).append(to(130, 0) % 110);
            else if (kind == 1) text.append("bear ").append(random.nextInt(30));
            else if (kind == 2 && tight) text.append("bear").append(random.nextInt(10));
            else {
                text.append("loss ").append(random.nextInt(101)).append(" from").append(blanks(tight));
                text.append(random.nextInt(60));
                if (random.nextBoolean()) text.append(" sure ").append(random.nextInt(101));
            }
        }
        if (random.nextInt(4) == 0 && text.length() > 0) {
            String signs = "; losbear019xZ" + (char) 200 + (char) 0 + (char) 9;
            int at = random.nextInt(text.length());
            char sign = signs.charAt(random.nextInt(signs.length()));
            if (random.nextBoolean()) text.insert(at, sign);
            else text.setCharAt(at, sign);
        }
        if (random.nextInt(6) == 0) text.setLength(random.nextInt(text.length() + 1));
        return text.toString();
    }

    private String blanks(boolean tight) {
        return tight ? "" : " ".repeat(random.nextInt(3));
    }

    private int board() {
        return wrong() ? far(30) : random.nextInt(boards);
    }

    private int hand() {
        return wrong() ? far(8) : random.nextInt(hands);
    }

    private int hour() {
        return wrong() ? far(1001) : random.nextInt(hours + 1);
    }

    private int place() {
        return wrong() ? far(64) : random.nextInt(grid);
    }

    private int width() {
        return wrong() ? far(401) : 1 + random.nextInt(random.nextBoolean() ? 100 : 400);
    }

    private int to(int most, int least) {
        return wrong() ? far(most + 1) : least + random.nextInt(most - least + 1);
    }

    private boolean wrong() {
        return random.nextInt(wrongOf) == 0;
    }

    private int far(int above) {
        int[] far = {-1, -2, above, above - 1, Integer.MIN_VALUE, Integer.MAX_VALUE, random.nextInt()};
        return far[random.nextInt(far.length)];
    }

    private boolean same(String name, int... a) {
        if (calls.size() == CALLS) return true;
        calls.add(name + java.util.Arrays.toString(a));
        int got = Calls.answer(pads, name, a);
        int due = plain.call(name, a);
        if (got != due) {
            calls.forEach(System.out::println);
            System.out.println("the last of these answered " + got + ", due is " + due);
        }
        return got == due;
    }
}
