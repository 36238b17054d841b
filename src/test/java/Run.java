import java.util.ArrayList;
import java.util.List;

/** Calls in their order: they make the same state on as many new objects as are wanted. */
final class Run {
    static final int MOST_CALLS = 512;

    private final List<Call> calls = new ArrayList<>();

    Run call(String name, int... numbers) {
        return call(new Call(name, numbers));
    }

    Run call(Call call) {
        calls.add(call);
        return this;
    }

    /** The calls that bring a TEXT behind an empty TAPE. */
    Run text(String text) {
        for (int at = 0; at < text.length(); at += 20) {
            call("feed", Texts.four(text, at), Texts.four(text, at + 4), Texts.four(text, at + 8),
                    Texts.four(text, at + 12), Texts.four(text, at + 16));
        }
        return call("end", text.length());
    }

    Run rules(String text) {
        return text(text).call("rules");
    }

    Run then(Call more) {
        Run longer = new Run();
        longer.calls.addAll(calls);
        return longer.call(more);
    }

    int length() {
        return calls.size();
    }

    HailPads made() {
        HailPads pads = new HailPads();
        for (Call call : calls) {
            call.on(pads);
        }
        return pads;
    }

    /** Answers to questions that change nothing, none of them behind an object's 512th call. */
    List<Integer> answers(List<Call> questions) {
        List<Integer> answers = new ArrayList<>();
        int left = 0;
        HailPads pads = null;
        for (Call question : questions) {
            if (left == 0) {
                pads = made();
                left = MOST_CALLS - length();
            }
            answers.add(question.on(pads));
            left--;
        }
        return answers;
    }
}
