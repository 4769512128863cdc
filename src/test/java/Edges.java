import java.util.IdentityHashMap;
import java.util.Map;

/**
 * What the tests of boundary cases share: each names a sentence of the document and where it stands, and tries the last
 * value that is taken and the first that is refused. A refused call is also looked behind: nothing may have changed.
 */
abstract class Edges extends Calls {
    private static final Due due = new Due();
    private static final Map<Story, Looks> looks = new IdentityHashMap<>();
    private static String sentence = "";

    /** From here on failures are told with this sentence. */
    static void sentence(String where, String words) {
        sentence = where + " \"" + words + "\": ";
    }

    /** Plays a story and then more calls on one object; each answer that is told with a call has to be given. */
    static void run(Story story, Call... more) {
        Story all = story.then(more);
        if (all.calls().size() > Story.MOST_CALLS) {
            throw new IllegalStateException("a run of " + all.calls().size() + " calls");
        }
        CutRepairer x = new CutRepairer();
        for (Call call : all.calls()) {
            int answer = call.on(x);
            if (call.judged()) {
                due.is(sentence + call.name(), answer, call.due());
            }
        }
    }

    /** Tries each call alone behind the story: it answers the error or NONE that is due, and changes nothing. */
    static void refused(Story story, Call... calls) {
        Looks before = looks.computeIfAbsent(story, Looks::new);
        for (Call call : calls) {
            due.is(sentence + call.name(), call.on(story.played()), call.due());
            due.is(sentence + call.name() + " is an error or NONE", call.due() < 0 && call.judged() ? 1 : 0, 1);
            nothing(call.name() + " changes nothing", before.differenceTo(story.then(call)));
        }
    }

    /** Two stories that have to end in the same state. */
    static void same(String what, Story one, Story other) {
        nothing(what, new Looks(one).differenceTo(other));
    }

    /** There has to be no difference. */
    static void nothing(String what, String difference) {
        due.is(sentence + what + ", but " + difference, difference.isEmpty() ? 1 : 0, 1);
    }

    /** Changes of process 0 until there are so many events; its stock a stays what it is or becomes 1 more or less. */
    static Story withEvents(Story story, int events) {
        Story longer = story;
        for (int e = longer.played().count(1); e < events; e++) {
            longer = longer.then(change(0, 0, e % 2 == 0 ? 1 : -1));
        }
        if (longer.played().count(1) != events) {
            throw new IllegalStateException("the changes did not all happen");
        }
        return longer;
    }

    /**
     * Something of everything: messages of before the history and of it, markers, a cut, rules, costs, a text; and
     * behind restore() an old history with messages, markers and a cut, too.
     */
    static Story busy() {
        return Story.of(setStock(0, 0, 50), setStock(0, 1, 20), setStock(1, 0, 40), setStock(2, 1, 30),
            send(0, 1, 0, 9), send(0, 2, 1, 4), change(1, 0, -3), setCut(0, 2), beginSnapshot(2), apply(false),
            receive(1, 0), change(2, 1, 7), send(1, 2, 0, 11), send(0, 1, 1, 5), beginSnapshot(1), receive(0, 1),
            setCut(0, 1), setCut(1, 2), setMoveCost(0, 1, 3), setOutsideCosts(7, 9))
            .ruled("1a>=48", "*b<=50", "~b=9").typing("2b>=7");
    }

    static void end() {
        due.end();
    }
}
