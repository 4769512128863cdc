/**
 * Whatever the arguments and however many the calls, none throws and each ends (LANGUAGE.md, rule 7). Behind the 512th
 * call the answers are free, so only that they come is looked at; up to it they are from the document's range.
 */
public final class RoughUseTests {
    private static final int OBJECTS = 60;
    private static final int CALLS = 6000;
    private static final int CALLS_GRANTED = 512;

    private static final Due due = new Due();
    private static int made;

    private RoughUseTests() {
    }

    public static void main(String[] args) {
        for (int seed = 0; seed < OBJECTS; seed++) {
            Chance chance = new Chance(seed);
            CutRepairer x = new CutRepairer();
            made = 0;
            for (int call = 0; call < CALLS; call++) {
                int answer = call(x, chance);
                made++;
                if (made <= CALLS_GRANTED) {
                    boolean possible = answer >= -120 && answer <= 10000000 || answer >= -100006 && answer <= -100001;
                    due.is("a call with any arguments", possible ? 1 : 0, 1);
                }
            }
        }
        moreMessagesThanCallsAllow();
        due.end();
    }

    private static int any(Chance chance) {
        return chance.oneIn(12)
            ? chance.oneOf(Integer.MIN_VALUE, Integer.MAX_VALUE, -1, 5, 6, 100, 101, 1000, 1001, chance.below(100000))
            : chance.below(5);
    }

    private static int call(CutRepairer x, Chance chance) {
        int a = any(chance);
        int b = any(chance);
        int c = any(chance);
        int d = chance.oneIn(2) ? any(chance) : chance.between(-100, 100);
        switch (chance.below(48)) {
            case 0:
                return chance.oneIn(60) ? x.reset(a) : x.count(a);
            case 1:
                return x.setStock(a, b, d * 10);
            case 2:
                return x.change(a, b, d);
            case 3:
                return x.stock(a, b);
            case 4:
                return x.inChannel(a, b, c, d);
            case 5:
                return x.event(d, a);
            case 6:
                return x.clock(d, a);
            case 7:
                return x.order(d, a);
            case 8:
                return x.count(a);
            case 9:
                return x.eventsOf(a);
            case 10:
                return x.beginSnapshot(a);
            case 11:
                return chance.oneIn(5) ? x.abandonSnapshot() : x.recorded(a);
            case 12:
                return x.recorded(a);
            case 13:
                return x.takeSnapshot();
            case 14:
            case 15:
                return x.setCut(a, d);
            case 16:
                return x.cut(a);
            case 17:
                return x.orphans();
            case 18:
                return x.lowerCut();
            case 19:
                return x.raiseCut();
            case 20:
                return x.stockAtCut(a, b);
            case 21:
                return x.inTransit(a, b, c, d);
            case 22:
            case 23:
            case 24:
            case 25:
                return x.type("0123*~ab<>==0123".charAt(chance.below(16)));
            case 26:
                return x.type((char) d);
            case 27:
                return x.clearText();
            case 28:
                return addRule(x, chance);
            case 29:
                return x.removeRule(a);
            case 30:
                return x.rule(a, b);
            case 31:
                return x.broken(chance.oneIn(2));
            case 32:
                return x.setMoveCost(a, b, d);
            case 33:
                return x.setOutsideCosts(d, c);
            case 34:
                return x.repairCost();
            case 35:
                return x.moved(a, b, c);
            case 36:
                return x.outside(a, b, chance.oneIn(2));
            case 37:
                return x.repairedStock(a, b);
            case 38:
                return chance.oneIn(3) ? x.apply(chance.oneIn(2)) : x.count(a);
            case 39:
                return chance.oneIn(3) ? x.restore() : x.count(a);
            case 40:
            case 41:
            case 42:
            case 43:
                return x.send(a, b, c, d);
            default:
                return x.receive(a, b);
        }
    }

    private static int addRule(CutRepairer x, Chance chance) {
        if (chance.oneIn(2)) {
            return x.addRule();
        }
        String text = chance.below(5) + (chance.oneIn(2) ? "a>=" : "b<=") + chance.below(900);
        // clearText(), and type() for each character.
        made += 1 + text.length();
        return Bench.rule(x, text);
    }

    /**
     * Cuts leave out all receives, and a rule guards what is in transit: so each channel keeps 49 messages. The
     * document promises nothing so far behind; the two answers only tell that the run has come where it was to come.
     */
    private static void moreMessagesThanCallsAllow() {
        CutRepairer x = Bench.of(5);
        for (int channel = 0; channel < 20; channel++) {
            int from = channel % 5;
            int to = (from + 1 + channel / 5) % 5;
            x.change(from, 0, 50);
            for (int k = 0; k < 49; k++) {
                x.send(from, to, 0, 1);
                x.receive(to, from);
            }
            Bench.cutAt(x, 0, 0, 0, 0, 0);
            x.setCut(from, x.eventsOf(from));
            int waiting = 0;
            for (int way = 0; way < 25; way++) {
                waiting += Math.max(0, x.inTransit(way / 5, way % 5, -1, 0));
            }
            Bench.rule(x, "~a>=" + waiting);
            x.apply(true);
            x.removeRule(0);
            x.restore();
            Bench.rule(x, "~a>=" + waiting);
            x.apply(true);
            x.removeRule(0);
        }
        due.is("more messages than 500 wait", x.count(2) > 500 ? 1 : 0, 1);
        for (int call = 0; call < 2000; call++) {
            x.setStock(call % 5, 0, 100);
            x.send(call % 5, (call / 5 + 1) % 5, 0, 1);
        }
        for (int call = 0; call < 2000; call++) {
            x.receive(call % 5, (call / 5 + 1) % 5);
        }
        due.is("some are taken", x.count(1), 100);
    }
}
