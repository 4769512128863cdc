/** All promises: long runs of calls of all kinds, each answer compared with that of PlainBench. */
public final class ModelTests {
    private static final int RUNS = 300;
    private static final int CALLS = 512;

    private static final Due due = new Due();

    private final Chance chance;
    private final CutRepairer x = new CutRepairer();
    private final PlainBench plain = new PlainBench();
    private final StringBuilder run = new StringBuilder();
    private int calls;
    private int n = 3;
    // How often a run does what: its own mixture, so that different runs come to different states.
    private final int wrongness;
    private final int systemWeight;
    private final int snapshotWeight;
    private final int cutWeight;
    private final int ruleWeight;
    private final int repairWeight;
    private final int applyWeight;
    private final int readWeight;
    private final int mostAmount;

    private ModelTests(int seed) {
        chance = new Chance(seed);
        wrongness = chance.oneOf(15, 60, 100000);
        systemWeight = chance.between(20, 60);
        snapshotWeight = chance.between(0, 12);
        cutWeight = chance.between(3, 12);
        ruleWeight = chance.oneOf(1, 3, 10);
        repairWeight = chance.between(2, 8);
        applyWeight = chance.oneOf(0, 1, 3);
        readWeight = chance.between(10, 50);
        mostAmount = chance.oneOf(3, 30, 100);
    }

    public static void main(String[] args) {
        int first = args.length > 0 ? Integer.parseInt(args[0]) : 0;
        int runs = args.length > 1 ? Integer.parseInt(args[1]) : RUNS;
        for (int seed = first; seed < first + runs && due.isAllRight(); seed++) {
            ModelTests test = new ModelTests(seed);
            test.play();
            if (!due.isAllRight()) {
                System.out.println("run " + seed + ":" + test.run);
            }
        }
        due.end();
    }

    private void play() {
        if (chance.oneIn(5)) {
            reset(3);
        } else {
            reset(chance.between(2, 5));
        }
        for (int p = 0; p < n; p++) {
            for (int s = 0; s < 2; s++) {
                setStock(p, s, chance.oneOf(chance.between(0, 1000), chance.between(0, 60), chance.between(950, 1000), 500));
            }
        }
        while (calls < CALLS && due.isAllRight()) {
            call();
        }
    }

    private void call() {
        int all = systemWeight + snapshotWeight + cutWeight + ruleWeight + repairWeight + applyWeight + readWeight;
        int which = chance.below(all);
        if ((which -= systemWeight) < 0) {
            system();
        } else if ((which -= snapshotWeight) < 0) {
            snapshot();
        } else if ((which -= cutWeight) < 0) {
            cut();
        } else if ((which -= ruleWeight) < 0) {
            rules();
        } else if ((which -= repairWeight) < 0) {
            repair();
        } else if ((which -= applyWeight) < 0) {
            replay();
        } else {
            read();
        }
    }

    // ---- arguments, sometimes wrong ones

    private boolean wrong() {
        return chance.oneIn(wrongness);
    }

    private int far() {
        return chance.oneOf(-1, Integer.MIN_VALUE, Integer.MAX_VALUE, chance.between(-3, 12));
    }

    private int process() {
        return wrong() ? far() : chance.below(n);
    }

    private int stock() {
        return wrong() ? far() : chance.below(2);
    }

    private int what(int most) {
        return wrong() ? far() : chance.between(0, most);
    }

    private int event() {
        int events = plain.count(1);
        return wrong() || events == 0 ? far() : chance.below(events);
    }

    private int otherThan(int process) {
        if (wrong() || process < 0 || process >= n) {
            return chance.oneOf(process, far());
        }
        return (process + 1 + chance.below(n - 1)) % n;
    }

    // ---- calls of each kind

    private void system() {
        int p = process();
        int q = otherThan(p);
        int s = stock();
        switch (chance.below(9)) {
            case 0: {
                int amount = wrong() ? chance.oneOf(0, 101, -101, far()) : chance.between(-mostAmount, mostAmount);
                same("change(" + p + ", " + s + ", " + amount + ")", x.change(p, s, amount), plain.change(p, s, amount));
                break;
            }
            case 1:
            case 2:
            case 3:
            case 4: {
                int amount = wrong() ? chance.oneOf(0, 101, far()) : chance.between(1, mostAmount);
                same("send(" + p + ", " + q + ", " + s + ", " + amount + ")", x.send(p, q, s, amount),
                    plain.send(p, q, s, amount));
                break;
            }
            case 5:
            case 6:
            case 7:
                receiveSomewhere();
                break;
            default:
                if (chance.oneIn(40)) {
                    reset(wrong() ? far() : chance.between(2, 5));
                } else {
                    setStock(p, s, wrong() ? chance.oneOf(1001, far()) : chance.between(0, 1000));
                }
                break;
        }
    }

    private void receiveSomewhere() {
        int p = process();
        int q = otherThan(p);
        for (int tries = 0; tries < 6 && plain.inChannel(q, p, 0, 0) == PlainBench.NONE; tries++) {
            p = process();
            q = otherThan(p);
        }
        same("receive(" + p + ", " + q + ")", x.receive(p, q), plain.receive(p, q));
    }

    private void reset(int processes) {
        same("reset(" + processes + ")", x.reset(processes), plain.reset(processes));
        n = plain.count(0);
    }

    private void setStock(int p, int s, int value) {
        same("setStock(" + p + ", " + s + ", " + value + ")", x.setStock(p, s, value), plain.setStock(p, s, value));
    }

    private void snapshot() {
        switch (chance.below(8)) {
            case 0:
            case 1: {
                int p = process();
                same("beginSnapshot(" + p + ")", x.beginSnapshot(p), plain.beginSnapshot(p));
                break;
            }
            case 2:
                same("takeSnapshot()", x.takeSnapshot(), plain.takeSnapshot());
                break;
            case 3:
                if (chance.oneIn(4)) {
                    same("abandonSnapshot()", x.abandonSnapshot(), plain.abandonSnapshot());
                }
                break;
            default:
                receiveSomewhere();
                break;
        }
    }

    private void cut() {
        switch (chance.below(6)) {
            case 0:
                same("lowerCut()", x.lowerCut(), plain.lowerCut());
                break;
            case 1:
                same("raiseCut()", x.raiseCut(), plain.raiseCut());
                break;
            default: {
                int p = process();
                int most = Math.max(0, plain.eventsOf(p));
                int events = wrong() ? chance.oneOf(most + 1, far()) : chance.between(0, most);
                same("setCut(" + p + ", " + events + ")", x.setCut(p, events), plain.setCut(p, events));
                break;
            }
        }
    }

    private void rules() {
        if (chance.oneIn(4)) {
            int rule = wrong() ? far() : chance.below(Math.max(1, plain.count(4)));
            same("removeRule(" + rule + ")", x.removeRule(rule), plain.removeRule(rule));
            return;
        }
        if (chance.oneIn(12)) {
            same("addRule()", x.addRule(), plain.addRule());
        }
        same("clearText()", x.clearText(), plain.clearText());
        String text = ruleText();
        for (int k = 0; k < text.length(); k++) {
            char c = text.charAt(k);
            same("type(" + (int) c + ")", x.type(c), plain.type(c));
        }
        same("addRule()", x.addRule(), plain.addRule());
    }

    private String ruleText() {
        String signs = "01234ab<>=*~9 c";
        int s = chance.below(2);
        int p = chance.below(n);
        int subject = chance.below(4);
        int value = plain.stock(p, s);
        if (subject == 0) {
            value = 500 * n + chance.between(-50, 50);
        } else if (subject == 1) {
            value = chance.between(0, 150);
        } else if (chance.oneIn(8)) {
            value = chance.between(0, 1010);
        }
        value = Math.max(0, Math.min(9999, value + chance.between(-20, 20)));
        StringBuilder text = new StringBuilder();
        text.append(subject == 0 ? "*" : subject == 1 ? "~" : String.valueOf(p));
        text.append(s == 0 ? 'a' : 'b');
        text.append(chance.oneOf(0, 1) == 0 ? "<=" : chance.oneIn(3) ? "=" : ">=");
        text.append(value);
        if (wrong()) {
            text.setCharAt(chance.below(text.length()), signs.charAt(chance.below(signs.length())));
        }
        if (wrong()) {
            text.insert(chance.below(text.length() + 1), signs.charAt(chance.below(signs.length())));
        }
        if (wrong()) {
            text.setLength(chance.below(text.length() + 1));
        }
        return text.toString();
    }

    private void repair() {
        int p = process();
        int q = otherThan(p);
        int s = stock();
        switch (chance.below(6)) {
            case 0:
                same("repairCost()", x.repairCost(), plain.repairCost());
                break;
            case 1:
                same("moved(" + p + ", " + q + ", " + s + ")", x.moved(p, q, s), plain.moved(p, q, s));
                break;
            case 2: {
                boolean burnt = chance.oneIn(2);
                same("outside(" + p + ", " + s + ", " + burnt + ")", x.outside(p, s, burnt), plain.outside(p, s, burnt));
                break;
            }
            case 3:
                same("repairedStock(" + p + ", " + s + ")", x.repairedStock(p, s), plain.repairedStock(p, s));
                break;
            case 4: {
                int cost = wrong() ? chance.oneOf(0, 1001, far()) : chance.oneOf(1, 2, 3, chance.between(1, 1000));
                same("setMoveCost(" + p + ", " + q + ", " + cost + ")", x.setMoveCost(p, q, cost),
                    plain.setMoveCost(p, q, cost));
                break;
            }
            default: {
                int grant = wrong() ? chance.oneOf(0, 1001, far()) : chance.oneOf(1, 2, 100, chance.between(1, 1000));
                int burn = wrong() ? chance.oneOf(0, 1001, far()) : chance.oneOf(1, 2, 100, chance.between(1, 1000));
                same("setOutsideCosts(" + grant + ", " + burn + ")", x.setOutsideCosts(grant, burn),
                    plain.setOutsideCosts(grant, burn));
                break;
            }
        }
    }

    private void replay() {
        if (chance.oneIn(3)) {
            same("restore()", x.restore(), plain.restore());
            return;
        }
        boolean guarded = chance.oneIn(2);
        same("apply(" + guarded + ")", x.apply(guarded), plain.apply(guarded));
        readAll();
    }

    /** After a replay: all stocks, channels and events, so far as calls are left. */
    private void readAll() {
        for (int p = 0; p < n; p++) {
            same("stock(" + p + ", 0)", x.stock(p, 0), plain.stock(p, 0));
            same("stock(" + p + ", 1)", x.stock(p, 1), plain.stock(p, 1));
        }
        same("broken(false)", x.broken(false), plain.broken(false));
        for (int e = 0; e < plain.count(1) && e < 6; e++) {
            int number = chance.below(plain.count(1));
            int what = chance.below(6);
            same("event(" + number + ", " + what + ")", x.event(number, what), plain.event(number, what));
        }
    }

    private void read() {
        int p = process();
        int q = otherThan(p);
        int s = stock();
        switch (chance.below(13)) {
            case 0:
                same("stock(" + p + ", " + s + ")", x.stock(p, s), plain.stock(p, s));
                break;
            case 1: {
                int k = wrong() ? far() : chance.below(5);
                int what = what(2);
                same("inChannel(" + p + ", " + q + ", " + k + ", " + what + ")", x.inChannel(p, q, k, what),
                    plain.inChannel(p, q, k, what));
                break;
            }
            case 2: {
                int event = event();
                int what = what(5);
                same("event(" + event + ", " + what + ")", x.event(event, what), plain.event(event, what));
                break;
            }
            case 3: {
                int event = event();
                same("clock(" + event + ", " + p + ")", x.clock(event, p), plain.clock(event, p));
                break;
            }
            case 4: {
                int event = event();
                int other = event();
                same("order(" + event + ", " + other + ")", x.order(event, other), plain.order(event, other));
                break;
            }
            case 5: {
                int what = what(7);
                same("count(" + what + ")", x.count(what), plain.count(what));
                break;
            }
            case 6:
                same("eventsOf(" + p + ")", x.eventsOf(p), plain.eventsOf(p));
                break;
            case 7:
                same("recorded(" + p + ")", x.recorded(p), plain.recorded(p));
                break;
            case 8:
                same("orphans()", x.orphans(), plain.orphans());
                same("cut(" + p + ")", x.cut(p), plain.cut(p));
                break;
            case 9:
                same("stockAtCut(" + p + ", " + s + ")", x.stockAtCut(p, s), plain.stockAtCut(p, s));
                break;
            case 10: {
                int k = wrong() ? far() : chance.between(-1, 3);
                int what = what(1);
                same("inTransit(" + p + ", " + q + ", " + k + ", " + what + ")", x.inTransit(p, q, k, what),
                    plain.inTransit(p, q, k, what));
                break;
            }
            case 11: {
                boolean atCut = chance.oneIn(2);
                same("broken(" + atCut + ")", x.broken(atCut), plain.broken(atCut));
                break;
            }
            default: {
                int rule = wrong() ? far() : chance.below(Math.max(1, plain.count(4)));
                int what = what(3);
                same("rule(" + rule + ", " + what + ")", x.rule(rule, what), plain.rule(rule, what));
                break;
            }
        }
    }

    private void same(String call, int answer, int wanted) {
        calls++;
        // The last calls of a run may be some more than an object is granted: what these answer is free.
        if (calls <= CALLS) {
            run.append("\n  ").append(call).append(" -> ").append(answer);
            due.is(call, answer, wanted);
        }
    }
}
