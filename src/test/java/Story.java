import java.util.ArrayList;
import java.util.List;

/** The calls that bring a new object to a state; it can be played again and again, each time on another object. */
final class Story {
    /** What the document grants an object. */
    static final int MOST_CALLS = 512;

    private final List<Call> calls;

    private Story(List<Call> calls) {
        this.calls = calls;
    }

    static Story of(Call... calls) {
        return new Story(List.of(calls));
    }

    Story then(Call... more) {
        return then(List.of(more));
    }

    Story then(List<Call> more) {
        List<Call> all = new ArrayList<>(calls);
        all.addAll(more);
        return new Story(all);
    }

    Story times(int times, Call... more) {
        Story longer = this;
        for (int k = 0; k < times; k++) {
            longer = longer.then(more);
        }
        return longer;
    }

    /** Types a text in place of the one that was there. */
    Story typing(String text) {
        Story longer = then(Calls.clearText());
        for (char character : text.toCharArray()) {
            longer = longer.then(Calls.type(character));
        }
        return longer;
    }

    Story ruled(String... rules) {
        Story longer = this;
        for (String rule : rules) {
            longer = longer.typing(rule).then(Calls.addRule());
        }
        return longer;
    }

    List<Call> calls() {
        return calls;
    }

    CutRepairer played() {
        if (calls.size() > MOST_CALLS) {
            throw new IllegalStateException("a story of " + calls.size() + " calls");
        }
        CutRepairer x = new CutRepairer();
        for (Call call : calls) {
            call.on(x);
        }
        return x;
    }
}
