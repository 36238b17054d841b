import java.util.List;
import java.util.Random;

/**
 * LANGUAGE.md, rule 7: no call ever throws or fails to end, for any numbers in any state: behind
 * an object's 512th call, too, where answers are free and so are not looked at.
 */
public final class NeverThrowsTest {
    private static final int CALLS = 6000;
    private static final int[] EDGES = {Integer.MIN_VALUE, Integer.MIN_VALUE + 1, -1001, -1000, -401, -2, -1, 0, 1, 2,
        3, 7, 8, 9, 10, 20, 21, 29, 30, 39, 40, 63, 64, 100, 101, 180, 200, 201, 300, 400, 401, 1000, 1001, 100000,
        100001, 1 << 26, 1 << 29, 429496730, Integer.MAX_VALUE - 1, Integer.MAX_VALUE};
    private static final List<Call> CALLED = List.of(new Call("board", 1, 1), new Call("dent", 0, 0, 0, 9, 0),
            new Call("clear", 0, 0), new Call("table", 0, 9, 9), new Call("of", 0, 0, 0, 2), new Call("leaning", 0, 0),
            new Call("seen", 0, 0, 0), new Call("track", 0, 9, 0), new Call("through", 0), new Call("within", 0),
            new Call("map", 1, 1, 0, 0), new Call("radar", 0, 0, 9), new Call("off", 1, 1, 0),
            new Call("feed", 0, 0, 0, 0, 0), new Call("end", 0), new Call("rules"), new Call("fault"),
            new Call("claim", 1, 1, 9, 9), new Call("judged", 0, 0), new Call("quarrel", 0, 0), new Call("count", 0),
            new Call("status"));

    private static long asked = 0;

    private NeverThrowsTest() {
    }

    public static void main(String[] args) {
        for (Run run : List.of(States.empty(), States.some(), States.full())) {
            everyEdge(run);
            for (int seed = 0; seed < 4; seed++) {
                endless(run, new Random(seed));
            }
        }
        System.out.println(asked + " calls, none threw");
    }

    /** Each number of each call at each edge, one after the other on one object. */
    private static void everyEdge(Run run) {
        HailPads pads = run.made();
        for (Call call : CALLED) {
            for (int which = 0; which < call.numbers().length; which++) {
                for (int edge : EDGES) {
                    ask(pads, call.with(which, edge));
                }
            }
        }
    }

    private static void endless(Run run, Random random) {
        HailPads pads = run.made();
        for (int k = 0; k < CALLS; k++) {
            Call call = CALLED.get(random.nextInt(CALLED.size()));
            for (int which = 0; which < call.numbers().length; which++) {
                call = call.with(which, drawn(random));
            }
            ask(pads, call);
        }
    }

    private static int drawn(Random random) {
        int kind = random.nextInt(8);
        if (kind == 0) {
            return random.nextInt();
        }
        return kind < 3 ? EDGES[random.nextInt(EDGES.length)] : random.nextInt(10);
    }

    private static void ask(HailPads pads, Call call) {
        asked++;
        try {
            call.on(pads);
        } catch (RuntimeException | StackOverflowError thrown) {
            System.out.println(call + " threw " + thrown);
            System.exit(1);
        }
    }
}
