import java.util.ArrayList;
import java.util.List;

/** All that can be asked of a state, so that two states can be held beside each other. */
final class Whole {
    private static final int[] HOURS = {0, 1, 2, 5, 7, 998, 999, 1000};
    private static final int[] PLACES = {0, 10, 20, 33, 63};

    private Whole() {
    }

    /** What the latest TRACK, DENTS, BOARDS, RADAR, RULES and CLAIMS answer. */
    static List<Integer> of(Run run) {
        List<Call> questions = new ArrayList<>();
        for (int hour : HOURS) {
            addBoards(questions, hour);
            addPlaces(questions, hour);
            for (int hand = 0; hand < 8; hand++) {
                questions.add(new Call("leaning", hand, hour));
            }
            for (int claim = 0; claim < 40; claim++) {
                questions.add(new Call("judged", claim, hour));
            }
        }
        for (int board = 0; board < 30; board++) {
            questions.add(new Call("within", board));
        }
        questions.add(new Call("through", 0));
        questions.add(new Call("through", 1));
        for (int what : new int[] {0, 1, 2, 3, 5}) {
            questions.add(new Call("count", what));
        }
        return run.answers(questions);
    }

    private static void addBoards(List<Call> questions, int hour) {
        for (int board = 0; board < 30; board++) {
            for (int what = 0; what < 3; what++) {
                questions.add(new Call("seen", board, hour, what));
            }
            questions.add(new Call("quarrel", board, hour));
            questions.add(new Call("of", board, board % 10, hour, 0));
            questions.add(new Call("of", board, 0, hour, 1));
            questions.add(new Call("of", board, 0, hour, 2));
            questions.add(new Call("of", board, 9, hour, 3));
        }
    }

    private static void addPlaces(List<Call> questions, int hour) {
        for (int x : PLACES) {
            for (int y : PLACES) {
                questions.add(new Call("map", x, y, hour, 0));
                questions.add(new Call("map", x, y, hour, 1));
                questions.add(new Call("off", x, y, hour));
            }
        }
    }

    /** How many bytes the TAPE has, and what they say once they have become the RULES. */
    static List<Integer> ofTape(Run run) {
        HailPads pads = run.made();
        List<Integer> answers = new ArrayList<>();
        answers.add(pads.count(4));
        answers.add(pads.rules());
        answers.add(pads.fault());
        for (int claim = 0; claim < 3; claim++) {
            answers.add(pads.judged(claim, 1000));
        }
        return answers;
    }
}
