import java.util.ArrayList;
import java.util.List;

/** Everything that can be asked behind a story: what an object tells at once, and what after a further call. */
final class Looks extends Calls {
    private static final int MOST_PROCESSES = 5;
    private static final int MOST_RULES = 12;
    private static final int MOST_EVENTS = 100;

    /** What is asked after further calls, and what was answered; and whether restore() was one of these calls. */
    private record Look(boolean restored, List<Call> further, List<Call> asked, int[] answers) {
    }

    private final List<Look> looks = new ArrayList<>();

    Looks(Story story) {
        List<Call> none = List.of();
        List<Call> restored = List.of(restore());
        List<Call> allCut = cuts(story, true);
        List<Call> noneCut = cuts(story, false);
        add(false, story, none, state(story));
        add(true, story, restored, state(story.then(restored)));
        add(false, story, allCut, state(story.then(allCut)));
        add(false, story, noneCut, state(story.then(noneCut)));
        add(false, story, none, text());
        add(false, story, none, costs());
        add(false, story, none, List.of(setOutsideCosts(7, 9)));
    }

    private void add(boolean restored, Story story, List<Call> further, List<Call> asked) {
        looks.add(new Look(restored, further, asked, answers(story.then(further), asked)));
    }

    /** The first question that is answered in another way behind the other story, or an empty text if there is none. */
    String differenceTo(Story other) {
        return differenceTo(other, List.of(), List.of());
    }

    /**
     * The same, but for questions whose names begin in one of these ways: the first ones where nothing was restored,
     * the second ones where restore() was called before asking.
     */
    String differenceTo(Story other, List<String> but, List<String> butRestored) {
        for (Look look : looks) {
            int[] others = answers(other.then(look.further), look.asked);
            for (int k = 0; k < others.length; k++) {
                String name = look.asked.get(k).name();
                boolean free = (look.restored ? butRestored : but).stream().anyMatch(name::startsWith);
                if (!free && others[k] != look.answers[k]) {
                    return name + (look.restored ? " after restore()" : "") + " is " + others[k] + ", not "
                        + look.answers[k];
                }
            }
        }
        return "";
    }

    /** Asks so many questions of one object as its calls allow, and the next ones of another. */
    private static int[] answers(Story story, List<Call> asked) {
        int each = Story.MOST_CALLS - story.calls().size();
        if (each <= 0) {
            throw new IllegalStateException("no call is left to ask with");
        }
        int[] answers = new int[asked.size()];
        CutRepairer x = null;
        for (int k = 0; k < answers.length; k++) {
            if (k % each == 0) {
                x = story.played();
            }
            answers[k] = asked.get(k).on(x);
        }
        return answers;
    }

    /** Calls that make all events the cut, or none. */
    private static List<Call> cuts(Story story, boolean all) {
        CutRepairer x = story.played();
        List<Call> calls = new ArrayList<>();
        for (int p = 0; p < x.count(0); p++) {
            calls.add(setCut(p, all ? x.eventsOf(p) : 0));
        }
        return calls;
    }

    private static List<Call> text() {
        List<Call> asked = new ArrayList<>(List.of(addRule()));
        for (int r = 0; r < MOST_RULES; r++) {
            for (int what = 0; what < 4; what++) {
                asked.add(rule(r, what));
            }
        }
        asked.add(clearText());
        return asked;
    }

    private static List<Call> costs() {
        List<Call> asked = new ArrayList<>();
        for (int p = 0; p < MOST_PROCESSES; p++) {
            for (int q = 0; q < MOST_PROCESSES; q++) {
                asked.add(setMoveCost(p, q, 1));
            }
        }
        asked.add(setOutsideCosts(100, 100));
        return asked;
    }

    private static List<Call> state(Story story) {
        CutRepairer x = story.played();
        int n = x.count(0);
        int events = x.count(1);
        List<Call> asked = new ArrayList<>();
        for (int what = 0; what < 8; what++) {
            asked.add(count(what));
        }
        asked.addAll(List.of(orphans(), broken(false), broken(true), repairCost()));
        for (int p = 0; p < n; p++) {
            asked.addAll(List.of(eventsOf(p), cut(p), recorded(p)));
            for (int s = 0; s < 2; s++) {
                asked.addAll(List.of(stock(p, s), stockAtCut(p, s), outside(p, s, false), outside(p, s, true),
                    repairedStock(p, s)));
            }
            for (int q = 0; q < n; q++) {
                if (q != p) {
                    channel(x, p, q, asked);
                }
            }
        }
        for (int e = 0; e < events && e < MOST_EVENTS; e++) {
            for (int what = 0; what < 6; what++) {
                asked.add(event(e, what));
            }
            for (int p = 0; p < n; p++) {
                asked.add(clock(e, p));
            }
        }
        asked.add(event(events, 0));
        return asked;
    }

    private static void channel(CutRepairer x, int from, int to, List<Call> asked) {
        asked.addAll(List.of(moved(from, to, 0), moved(from, to, 1), inTransit(from, to, -1, 0)));
        // Bounded, so that the tests of a program that is wrong here end, too.
        int waiting = 0;
        while (waiting < MOST_EVENTS && x.inChannel(from, to, waiting, 0) != NONE) {
            waiting++;
        }
        for (int k = 0; k <= waiting; k++) {
            asked.addAll(List.of(inChannel(from, to, k, 0), inChannel(from, to, k, 1), inChannel(from, to, k, 2)));
        }
        int crossing = x.inTransit(from, to, -1, 0);
        for (int k = 0; k <= crossing && k < MOST_EVENTS; k++) {
            asked.addAll(List.of(inTransit(from, to, k, 0), inTransit(from, to, k, 1)));
        }
    }
}
