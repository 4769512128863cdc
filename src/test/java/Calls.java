/** All calls of the document under their own names, to be made later, and its constants as the document tells them. */
abstract class Calls {
    static final int UNKNOWN = -100001;
    static final int BAD_VALUE = -100002;
    static final int NOT_NOW = -100003;
    static final int NOT_POSSIBLE = -100004;
    static final int FULL = -100005;
    static final int NONE = -100006;
    static final int MARKER = 1000;
    static final int MIN = Integer.MIN_VALUE;
    static final int MAX = Integer.MAX_VALUE;

    static Call reset(int n) {
        return Call.of("reset", x -> x.reset(n), n);
    }

    static Call setStock(int p, int s, int value) {
        return Call.of("setStock", x -> x.setStock(p, s, value), p, s, value);
    }

    static Call change(int p, int s, int amount) {
        return Call.of("change", x -> x.change(p, s, amount), p, s, amount);
    }

    static Call send(int from, int to, int s, int amount) {
        return Call.of("send", x -> x.send(from, to, s, amount), from, to, s, amount);
    }

    static Call receive(int p, int from) {
        return Call.of("receive", x -> x.receive(p, from), p, from);
    }

    static Call stock(int p, int s) {
        return Call.of("stock", x -> x.stock(p, s), p, s);
    }

    static Call inChannel(int from, int to, int k, int what) {
        return Call.of("inChannel", x -> x.inChannel(from, to, k, what), from, to, k, what);
    }

    static Call event(int event, int what) {
        return Call.of("event", x -> x.event(event, what), event, what);
    }

    static Call clock(int event, int p) {
        return Call.of("clock", x -> x.clock(event, p), event, p);
    }

    static Call order(int event, int other) {
        return Call.of("order", x -> x.order(event, other), event, other);
    }

    static Call count(int what) {
        return Call.of("count", x -> x.count(what), what);
    }

    static Call eventsOf(int p) {
        return Call.of("eventsOf", x -> x.eventsOf(p), p);
    }

    static Call beginSnapshot(int p) {
        return Call.of("beginSnapshot", x -> x.beginSnapshot(p), p);
    }

    static Call abandonSnapshot() {
        return Call.of("abandonSnapshot", CutRepairer::abandonSnapshot);
    }

    static Call recorded(int p) {
        return Call.of("recorded", x -> x.recorded(p), p);
    }

    static Call takeSnapshot() {
        return Call.of("takeSnapshot", CutRepairer::takeSnapshot);
    }

    static Call setCut(int p, int events) {
        return Call.of("setCut", x -> x.setCut(p, events), p, events);
    }

    static Call cut(int p) {
        return Call.of("cut", x -> x.cut(p), p);
    }

    static Call orphans() {
        return Call.of("orphans", CutRepairer::orphans);
    }

    static Call lowerCut() {
        return Call.of("lowerCut", CutRepairer::lowerCut);
    }

    static Call raiseCut() {
        return Call.of("raiseCut", CutRepairer::raiseCut);
    }

    static Call stockAtCut(int p, int s) {
        return Call.of("stockAtCut", x -> x.stockAtCut(p, s), p, s);
    }

    static Call inTransit(int from, int to, int k, int what) {
        return Call.of("inTransit", x -> x.inTransit(from, to, k, what), from, to, k, what);
    }

    static Call type(char character) {
        return Call.of("type", x -> x.type(character), (int) character);
    }

    static Call clearText() {
        return Call.of("clearText", CutRepairer::clearText);
    }

    static Call addRule() {
        return Call.of("addRule", CutRepairer::addRule);
    }

    static Call removeRule(int rule) {
        return Call.of("removeRule", x -> x.removeRule(rule), rule);
    }

    static Call rule(int rule, int what) {
        return Call.of("rule", x -> x.rule(rule, what), rule, what);
    }

    static Call broken(boolean atCut) {
        return Call.of("broken", x -> x.broken(atCut), atCut);
    }

    static Call setMoveCost(int from, int to, int cost) {
        return Call.of("setMoveCost", x -> x.setMoveCost(from, to, cost), from, to, cost);
    }

    static Call setOutsideCosts(int grant, int burn) {
        return Call.of("setOutsideCosts", x -> x.setOutsideCosts(grant, burn), grant, burn);
    }

    static Call repairCost() {
        return Call.of("repairCost", CutRepairer::repairCost);
    }

    static Call moved(int from, int to, int s) {
        return Call.of("moved", x -> x.moved(from, to, s), from, to, s);
    }

    static Call outside(int p, int s, boolean burnt) {
        return Call.of("outside", x -> x.outside(p, s, burnt), p, s, burnt);
    }

    static Call repairedStock(int p, int s) {
        return Call.of("repairedStock", x -> x.repairedStock(p, s), p, s);
    }

    static Call apply(boolean guarded) {
        return Call.of("apply", x -> x.apply(guarded), guarded);
    }

    static Call restore() {
        return Call.of("restore", CutRepairer::restore);
    }
}
