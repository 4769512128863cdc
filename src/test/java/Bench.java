/** Calls that the tests make often. */
final class Bench {
    private Bench() {
    }

    static CutRepairer of(int processes) {
        CutRepairer x = new CutRepairer();
        x.reset(processes);
        return x;
    }

    static int type(CutRepairer x, String text) {
        int length = x.clearText();
        for (int i = 0; i < text.length(); i++) {
            length = x.type(text.charAt(i));
        }
        return length;
    }

    static int rule(CutRepairer x, String text) {
        type(x, text);
        return x.addRule();
    }

    /** Lets changes happen until there are so many events; the stock a of process 0 stays what it is or is 1 more. */
    static void fillUpTo(CutRepairer x, int events) {
        for (int e = x.count(1); e < events; e++) {
            x.change(0, 0, e % 2 == 0 ? 1 : -1);
        }
    }

    /** Lets the cut have all events. */
    static void cutAll(CutRepairer x) {
        for (int p = 0; p < x.count(0); p++) {
            x.setCut(p, x.eventsOf(p));
        }
    }

    static void cutAt(CutRepairer x, int... events) {
        for (int p = 0; p < events.length; p++) {
            x.setCut(p, events[p]);
        }
    }
}
