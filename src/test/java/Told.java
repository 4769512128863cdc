/** Everything that an object tells without being changed, as one text: two equal texts mean an equal state. */
final class Told {
    private static final int MOST_EVENTS = 100;

    private Told() {
    }

    /** All of it: the system, the rules, the costs and the repair; of the text only its length can be told. */
    static String everything(CutRepairer x) {
        StringBuilder told = new StringBuilder();
        system(x, told);
        rules(x, told);
        repair(x, told);
        told.append(" restorable ").append(x.count(7));
        return told.toString();
    }

    /** What apply() puts aside and restore() brings back. */
    static String system(CutRepairer x) {
        StringBuilder told = new StringBuilder();
        system(x, told);
        return told.toString();
    }

    private static void system(CutRepairer x, StringBuilder told) {
        int n = x.count(0);
        told.append("n ").append(n);
        for (int what : new int[] {1, 2, 3, 5, 6}) {
            told.append(' ').append(x.count(what));
        }
        told.append(" orphans ").append(x.orphans());
        for (int p = 0; p < n; p++) {
            told.append("\nprocess ").append(p);
            told.append(' ').append(x.eventsOf(p)).append(' ').append(x.cut(p)).append(' ').append(x.recorded(p));
            for (int s = 0; s < 2; s++) {
                told.append(' ').append(x.stock(p, s)).append(' ').append(x.stockAtCut(p, s));
            }
            for (int q = 0; q < n; q++) {
                if (q != p) {
                    channel(x, p, q, told);
                }
            }
        }
        for (int e = 0; e < x.count(1) && e < MOST_EVENTS; e++) {
            told.append("\nevent ").append(e);
            for (int what = 0; what < 6; what++) {
                told.append(' ').append(x.event(e, what));
            }
            for (int p = 0; p < n; p++) {
                told.append(' ').append(x.clock(e, p));
            }
        }
    }

    private static void channel(CutRepairer x, int from, int to, StringBuilder told) {
        told.append(" to ").append(to);
        for (int k = 0; x.inChannel(from, to, k, 0) != CutRepairer.NONE; k++) {
            for (int what = 0; what < 3; what++) {
                told.append(' ').append(x.inChannel(from, to, k, what));
            }
        }
        told.append(" crossing");
        int crossing = x.inTransit(from, to, -1, 0);
        told.append(' ').append(crossing);
        for (int k = 0; k < crossing; k++) {
            told.append(' ').append(x.inTransit(from, to, k, 0)).append(' ').append(x.inTransit(from, to, k, 1));
        }
    }

    private static void rules(CutRepairer x, StringBuilder told) {
        told.append("\nrules ").append(x.count(4));
        for (int r = 0; r < x.count(4); r++) {
            for (int what = 0; what < 4; what++) {
                told.append(' ').append(x.rule(r, what));
            }
        }
        told.append(" broken ").append(x.broken(false)).append(' ').append(x.broken(true));
    }

    private static void repair(CutRepairer x, StringBuilder told) {
        int n = x.count(0);
        told.append("\nrepair ").append(x.repairCost());
        for (int s = 0; s < 2; s++) {
            for (int p = 0; p < n; p++) {
                for (int q = 0; q < n; q++) {
                    told.append(' ').append(x.moved(p, q, s));
                }
                told.append(' ').append(x.outside(p, s, false)).append(' ').append(x.outside(p, s, true));
                told.append(' ').append(x.repairedStock(p, s));
            }
        }
    }
}
