import java.util.ArrayList;
import java.util.List;

/**
 * The document once more, in plainest objects and lists, to compare the program's answers with: it shares no way of
 * reckoning with the program (orders by searching ways between events, cuts as sets of events, stocks at cuts as they
 * were noted when they were so, repairs by PlainRepair).
 */
final class PlainBench {
    static final int UNKNOWN = -100001;
    static final int BAD_VALUE = -100002;
    static final int NOT_NOW = -100003;
    static final int NOT_POSSIBLE = -100004;
    static final int FULL = -100005;
    static final int NONE = -100006;
    static final int MARKER = 1000;

    /** A message, or a marker if the amount is 0. */
    private static final class Item {
        int stock;
        int amount;
        Event sent;
        Event received;

        boolean isMarker() {
            return amount == 0;
        }
    }

    private static final class Event {
        int number;
        int process;
        int place;
        int kind;
        int stock;
        int amount;
        int other;
        Item item;
        int[] stocksAfter;
    }

    private static final class State {
        int[][] stocks;
        int[][] firstStocks;
        List<Event> events = new ArrayList<>();
        List<List<List<Item>>> channels = new ArrayList<>();
        List<List<List<Item>>> everPut = new ArrayList<>();
        int snapshot;
        int[] recorded;
        int[] cut;
    }

    private int n;
    private State state;
    private State before;
    private final StringBuilder text = new StringBuilder();
    private List<int[]> rules;
    private int[][] moveCosts;
    private int grant;
    private int burn;

    PlainBench() {
        n = 3;
        begin();
    }

    private void begin() {
        state = fresh(new int[n][2]);
        before = null;
        rules = new ArrayList<>();
        moveCosts = new int[n][n];
        for (int[] row : moveCosts) {
            java.util.Arrays.fill(row, 1);
        }
        grant = 100;
        burn = 100;
    }

    private State fresh(int[][] stocks) {
        State s = new State();
        s.stocks = copy(stocks);
        s.firstStocks = copy(stocks);
        s.recorded = new int[n];
        java.util.Arrays.fill(s.recorded, NONE);
        s.cut = new int[n];
        for (int p = 0; p < n; p++) {
            s.channels.add(new ArrayList<>());
            s.everPut.add(new ArrayList<>());
            for (int q = 0; q < n; q++) {
                s.channels.get(p).add(new ArrayList<>());
                s.everPut.get(p).add(new ArrayList<>());
            }
        }
        return s;
    }

    private static int[][] copy(int[][] rows) {
        int[][] copied = new int[rows.length][];
        for (int r = 0; r < rows.length; r++) {
            copied[r] = rows[r].clone();
        }
        return copied;
    }

    private boolean noProcess(int p) {
        return p < 0 || p >= n;
    }

    private static boolean noStock(int s) {
        return s != 0 && s != 1;
    }

    private boolean noPair(int p, int q) {
        return noProcess(p) || noProcess(q) || p == q;
    }

    private boolean noEvent(int e) {
        return e < 0 || e >= state.events.size();
    }

    // ---- system

    int reset(int processes) {
        if (processes < 2 || processes > 5) {
            return BAD_VALUE;
        }
        int old = n;
        n = processes;
        begin();
        return old;
    }

    int setStock(int p, int s, int value) {
        if (noProcess(p) || noStock(s)) {
            return UNKNOWN;
        }
        if (value < 0 || value > 1000) {
            return BAD_VALUE;
        }
        if (!state.events.isEmpty()) {
            return NOT_NOW;
        }
        int old = state.stocks[p][s];
        state.stocks[p][s] = value;
        state.firstStocks[p][s] = value;
        return old;
    }

    private int happen(int process, int kind, int stock, int amount, int other, Item item) {
        Event e = new Event();
        e.number = state.events.size();
        e.process = process;
        e.place = eventsOf(process);
        e.kind = kind;
        e.stock = stock;
        e.amount = amount;
        e.other = other;
        e.item = item;
        state.stocks[process][stock] += kind == 1 ? -amount : amount;
        e.stocksAfter = state.stocks[process].clone();
        state.events.add(e);
        return e.number;
    }

    int change(int p, int s, int amount) {
        if (noProcess(p) || noStock(s)) {
            return UNKNOWN;
        }
        if (amount < -100 || amount > 100 || amount == 0) {
            return BAD_VALUE;
        }
        int value = state.stocks[p][s] + amount;
        if (value < 0 || value > 1000) {
            return NOT_POSSIBLE;
        }
        return state.events.size() == 100 ? FULL : happen(p, 0, s, amount, NONE, null);
    }

    int send(int from, int to, int s, int amount) {
        if (noPair(from, to) || noStock(s)) {
            return UNKNOWN;
        }
        if (amount < 1 || amount > 100) {
            return BAD_VALUE;
        }
        if (state.stocks[from][s] < amount) {
            return NOT_POSSIBLE;
        }
        if (state.events.size() == 100 || messagesIn(channel(from, to)) >= 6) {
            return FULL;
        }
        Item item = new Item();
        item.stock = s;
        item.amount = amount;
        channel(from, to).add(item);
        state.everPut.get(from).get(to).add(item);
        int number = happen(from, 1, s, amount, to, item);
        item.sent = state.events.get(number);
        return number;
    }

    private List<Item> channel(int from, int to) {
        return state.channels.get(from).get(to);
    }

    private static int messagesIn(List<Item> channel) {
        int messages = 0;
        for (Item item : channel) {
            messages += item.isMarker() ? 0 : 1;
        }
        return messages;
    }

    int receive(int p, int from) {
        if (noPair(p, from)) {
            return UNKNOWN;
        }
        List<Item> channel = channel(from, p);
        if (channel.isEmpty()) {
            return NONE;
        }
        Item item = channel.get(0);
        if (item.isMarker()) {
            channel.remove(0);
            if (state.recorded[p] == NONE) {
                recordAt(p);
            }
            settleSnapshot();
            return MARKER;
        }
        if (state.stocks[p][item.stock] + item.amount > 1000) {
            return NOT_POSSIBLE;
        }
        if (state.events.size() == 100) {
            return FULL;
        }
        channel.remove(0);
        int number = happen(p, 2, item.stock, item.amount, from, item);
        item.received = state.events.get(number);
        return number;
    }

    private void recordAt(int p) {
        state.recorded[p] = eventsOf(p);
        for (int q = 0; q < n; q++) {
            if (q != p) {
                channel(p, q).add(new Item());
            }
        }
    }

    private void settleSnapshot() {
        boolean all = count(3) == 0;
        for (int recorded : state.recorded) {
            all &= recorded != NONE;
        }
        if (all) {
            state.snapshot = 2;
        }
    }

    int stock(int p, int s) {
        return noProcess(p) || noStock(s) ? UNKNOWN : state.stocks[p][s];
    }

    int inChannel(int from, int to, int k, int what) {
        if (noPair(from, to)) {
            return UNKNOWN;
        }
        if (k < 0 || what < 0 || what > 2) {
            return BAD_VALUE;
        }
        if (k >= channel(from, to).size()) {
            return NONE;
        }
        Item item = channel(from, to).get(k);
        if (item.isMarker()) {
            return new int[] {2, 0, NONE}[what];
        }
        return new int[] {item.stock, item.amount, item.sent == null ? NONE : item.sent.number}[what];
    }

    int event(int number, int what) {
        if (noEvent(number)) {
            return UNKNOWN;
        }
        if (what < 0 || what > 5) {
            return BAD_VALUE;
        }
        Event e = state.events.get(number);
        Event same = e.kind == 0 ? null : e.kind == 1 ? e.item.received : e.item.sent;
        int partner = same == null ? NONE : same.number;
        return new int[] {e.process, e.kind, e.stock, e.amount, e.other, partner}[what];
    }

    /** All events from which a way leads to the given one, itself too. */
    private boolean[] upTo(List<Event> ends) {
        boolean[] reached = new boolean[state.events.size()];
        List<Event> open = new ArrayList<>(ends);
        while (!open.isEmpty()) {
            Event e = open.remove(open.size() - 1);
            if (reached[e.number]) {
                continue;
            }
            reached[e.number] = true;
            for (Event earlier : state.events) {
                boolean sameProcess = earlier.process == e.process && earlier.place == e.place - 1;
                boolean sameMessage = e.kind == 2 && e.item.sent == earlier;
                if (sameProcess || sameMessage) {
                    open.add(earlier);
                }
            }
        }
        return reached;
    }

    int clock(int number, int p) {
        if (noEvent(number) || noProcess(p)) {
            return UNKNOWN;
        }
        boolean[] reached = upTo(List.of(state.events.get(number)));
        int events = 0;
        for (Event e : state.events) {
            events += reached[e.number] && e.process == p ? 1 : 0;
        }
        return events;
    }

    int order(int one, int other) {
        if (noEvent(one) || noEvent(other)) {
            return UNKNOWN;
        }
        if (one == other) {
            return 0;
        }
        if (upTo(List.of(state.events.get(other)))[one]) {
            return 1;
        }
        return upTo(List.of(state.events.get(one)))[other] ? -1 : 0;
    }

    int count(int what) {
        int messages = 0;
        int markers = 0;
        for (List<List<Item>> row : state.channels) {
            for (List<Item> channel : row) {
                messages += messagesIn(channel);
                markers += channel.size() - messagesIn(channel);
            }
        }
        int inCut = 0;
        for (int events : state.cut) {
            inCut += events;
        }
        int[] counts = {n, state.events.size(), messages, markers, rules.size(), state.snapshot, inCut,
            before == null ? 0 : 1};
        return what < 0 || what > 7 ? BAD_VALUE : counts[what];
    }

    int eventsOf(int p) {
        if (noProcess(p)) {
            return UNKNOWN;
        }
        int events = 0;
        for (Event e : state.events) {
            events += e.process == p ? 1 : 0;
        }
        return events;
    }

    // ---- snapshots and cuts

    int beginSnapshot(int p) {
        if (noProcess(p)) {
            return UNKNOWN;
        }
        if (state.snapshot == 1) {
            return NOT_NOW;
        }
        state.snapshot = 1;
        java.util.Arrays.fill(state.recorded, NONE);
        recordAt(p);
        return count(3);
    }

    int abandonSnapshot() {
        if (state.snapshot != 1) {
            return NOT_NOW;
        }
        int markers = count(3);
        for (List<List<Item>> row : state.channels) {
            for (List<Item> channel : row) {
                channel.removeIf(Item::isMarker);
            }
        }
        state.snapshot = 0;
        java.util.Arrays.fill(state.recorded, NONE);
        return markers;
    }

    int recorded(int p) {
        return noProcess(p) ? UNKNOWN : state.recorded[p];
    }

    int takeSnapshot() {
        if (state.snapshot != 2) {
            return NOT_NOW;
        }
        state.cut = state.recorded.clone();
        return count(6);
    }

    int setCut(int p, int events) {
        if (noProcess(p)) {
            return UNKNOWN;
        }
        if (events < 0 || events > eventsOf(p)) {
            return BAD_VALUE;
        }
        int old = state.cut[p];
        state.cut[p] = events;
        return old;
    }

    int cut(int p) {
        return noProcess(p) ? UNKNOWN : state.cut[p];
    }

    private boolean inCut(Event e) {
        return e != null && e.place < state.cut[e.process];
    }

    int orphans() {
        int orphans = 0;
        for (Event e : state.events) {
            orphans += e.kind == 2 && inCut(e) && e.item.sent != null && !inCut(e.item.sent) ? 1 : 0;
        }
        return orphans;
    }

    /** The events of the cut before which nothing happens that is not in it, too. */
    int lowerCut() {
        int old = count(6);
        int[] lowered = new int[n];
        for (Event e : state.events) {
            boolean[] needed = upTo(List.of(e));
            boolean all = true;
            for (Event other : state.events) {
                all &= !needed[other.number] || inCut(other);
            }
            lowered[e.process] += all ? 1 : 0;
        }
        state.cut = lowered;
        return old - count(6);
    }

    /** The events of the cut, and all that happen before one of them. */
    int raiseCut() {
        int old = count(6);
        List<Event> ends = new ArrayList<>();
        for (Event e : state.events) {
            if (inCut(e)) {
                ends.add(e);
            }
        }
        boolean[] needed = upTo(ends);
        int[] raised = new int[n];
        for (Event e : state.events) {
            raised[e.process] += needed[e.number] ? 1 : 0;
        }
        state.cut = raised;
        return count(6) - old;
    }

    int stockAtCut(int p, int s) {
        if (noProcess(p) || noStock(s)) {
            return UNKNOWN;
        }
        int value = state.firstStocks[p][s];
        for (Event e : state.events) {
            if (e.process == p && e.place == state.cut[p] - 1) {
                value = e.stocksAfter[s];
            }
        }
        return value;
    }

    private List<Item> crossing(int from, int to) {
        List<Item> crossing = new ArrayList<>();
        for (Item item : state.everPut.get(from).get(to)) {
            if ((item.sent == null || inCut(item.sent)) && !inCut(item.received)) {
                crossing.add(item);
            }
        }
        return crossing;
    }

    int inTransit(int from, int to, int k, int what) {
        if (noPair(from, to)) {
            return UNKNOWN;
        }
        if (k < -1 || what < 0 || what > 1) {
            return BAD_VALUE;
        }
        if (orphans() > 0) {
            return NOT_POSSIBLE;
        }
        List<Item> crossing = crossing(from, to);
        if (k == -1) {
            return crossing.size();
        }
        if (k >= crossing.size()) {
            return NONE;
        }
        return what == 0 ? crossing.get(k).stock : crossing.get(k).amount;
    }

    // ---- rules

    int type(char c) {
        if (text.length() == 20) {
            return FULL;
        }
        text.append(c);
        return text.length();
    }

    int clearText() {
        int length = text.length();
        text.setLength(0);
        return length;
    }

    /** The fault is where the longest beginning ends that a rule can have. */
    private int fault() {
        String subject = "[*~0-" + (n - 1) + "]";
        String[] beginnings = {"", subject, subject + "[ab]", subject + "[ab][<>=]", subject + "[ab][<>]=",
            subject + "[ab][<>]?=[0-9]{1,4}"};
        int longest = 0;
        for (int length = 0; length <= text.length(); length++) {
            for (String beginning : beginnings) {
                if (text.substring(0, length).matches("(?s)" + beginning)) {
                    longest = length;
                }
            }
        }
        boolean complete = text.toString().matches("(?s)" + beginnings[5]);
        return complete ? -1 : longest;
    }

    int addRule() {
        int fault = fault();
        if (fault >= 0) {
            return -100 - fault;
        }
        if (rules.size() == 12) {
            return FULL;
        }
        String rule = text.toString();
        int subject = rule.charAt(0) == '*' ? 8 : rule.charAt(0) == '~' ? 9 : rule.charAt(0) - '0';
        int relation = rule.contains("<=") ? 0 : rule.contains(">=") ? 1 : 2;
        int number = Integer.parseInt(rule.substring(rule.indexOf('=') + 1));
        rules.add(new int[] {subject, rule.charAt(1) - 'a', relation, number});
        return rules.size() - 1;
    }

    int removeRule(int rule) {
        if (rule < 0 || rule >= rules.size()) {
            return UNKNOWN;
        }
        rules.remove(rule);
        return rules.size();
    }

    int rule(int rule, int what) {
        if (rule < 0 || rule >= rules.size()) {
            return UNKNOWN;
        }
        return what < 0 || what > 3 ? BAD_VALUE : rules.get(rule)[what];
    }

    private static boolean keeps(int value, int[] rule) {
        return rule[2] == 0 ? value <= rule[3] : rule[2] == 1 ? value >= rule[3] : value == rule[3];
    }

    private int brokenBy(int[][] stocks, int[] transit) {
        int bits = 0;
        for (int r = 0; r < rules.size(); r++) {
            int[] rule = rules.get(r);
            int value = transit[rule[1]];
            if (rule[0] < 8) {
                value = stocks[rule[0]][rule[1]];
            } else if (rule[0] == 8) {
                for (int[] of : stocks) {
                    value += of[rule[1]];
                }
            }
            bits |= keeps(value, rule) ? 0 : 1 << r;
        }
        return bits;
    }

    private int[] presentTransit() {
        int[] transit = new int[2];
        for (List<List<Item>> row : state.channels) {
            for (List<Item> channel : row) {
                for (Item item : channel) {
                    transit[item.stock] += item.amount;
                }
            }
        }
        return transit;
    }

    private int[] cutTransit() {
        int[] transit = new int[2];
        for (int p = 0; p < n; p++) {
            for (int q = 0; q < n; q++) {
                for (Item item : crossing(p, q)) {
                    transit[item.stock] += item.amount;
                }
            }
        }
        return transit;
    }

    private int[][] cutStocks() {
        int[][] stocks = new int[n][2];
        for (int p = 0; p < n; p++) {
            stocks[p] = new int[] {stockAtCut(p, 0), stockAtCut(p, 1)};
        }
        return stocks;
    }

    int broken(boolean atCut) {
        if (!atCut) {
            return brokenBy(state.stocks, presentTransit());
        }
        return orphans() > 0 ? NOT_POSSIBLE : brokenBy(cutStocks(), cutTransit());
    }

    // ---- repairs

    int setMoveCost(int from, int to, int cost) {
        if (noPair(from, to)) {
            return UNKNOWN;
        }
        if (cost < 1 || cost > 1000) {
            return BAD_VALUE;
        }
        int old = moveCosts[from][to];
        moveCosts[from][to] = cost;
        return old;
    }

    int setOutsideCosts(int newGrant, int newBurn) {
        if (newGrant < 1 || newGrant > 1000 || newBurn < 1 || newBurn > 1000) {
            return BAD_VALUE;
        }
        int changes = newGrant != grant || newBurn != burn ? 1 : 0;
        grant = newGrant;
        burn = newBurn;
        return changes;
    }

    private PlainRepair[] found;
    private String foundFor = "";

    /** Null if there is none. As finding takes long, the last one is kept with all that it was found for. */
    private PlainRepair[] repairs() {
        StringBuilder all = new StringBuilder();
        all.append(java.util.Arrays.deepToString(cutStocks())).append(java.util.Arrays.toString(cutTransit()));
        all.append(java.util.Arrays.deepToString(moveCosts)).append(grant).append(' ').append(burn);
        for (int[] rule : rules) {
            all.append(java.util.Arrays.toString(rule));
        }
        if (!all.toString().equals(foundFor)) {
            foundFor = all.toString();
            found = findRepairs();
        }
        return found;
    }

    private PlainRepair[] findRepairs() {
        int[][] stocks = cutStocks();
        int[] transit = cutTransit();
        PlainRepair[] both = new PlainRepair[2];
        for (int s = 0; s < 2; s++) {
            int[] ofStock = new int[n];
            for (int p = 0; p < n; p++) {
                ofStock[p] = stocks[p][s];
            }
            both[s] = new PlainRepair(ofStock, moveCosts, grant, burn);
            for (int[] rule : rules) {
                int low = rule[2] == 0 ? -99999 : rule[3];
                int high = rule[2] == 1 ? 99999 : rule[3];
                if (rule[1] != s) {
                    continue;
                }
                if (rule[0] == 9) {
                    if (!keeps(transit[s], rule)) {
                        return null;
                    }
                } else if (rule[0] == 8) {
                    both[s].keepSum(low - transit[s], high - transit[s]);
                } else {
                    both[s].keepStock(rule[0], low, high);
                }
            }
            both[s].find();
            if (both[s].best == null) {
                return null;
            }
        }
        return both;
    }

    int repairCost() {
        if (orphans() > 0) {
            return NOT_POSSIBLE;
        }
        PlainRepair[] both = repairs();
        return both == null ? NONE : (int) (both[0].cost + both[1].cost);
    }

    private int moveAmount(int[] plan, int from, int to) {
        return plan[from * (n - 1) + (to > from ? to - 1 : to)];
    }

    int moved(int from, int to, int s) {
        if (noPair(from, to) || noStock(s)) {
            return UNKNOWN;
        }
        if (orphans() > 0) {
            return NOT_POSSIBLE;
        }
        PlainRepair[] both = repairs();
        return both == null ? NONE : moveAmount(both[s].best, from, to);
    }

    int outside(int p, int s, boolean burnt) {
        if (noProcess(p) || noStock(s)) {
            return UNKNOWN;
        }
        if (orphans() > 0) {
            return NOT_POSSIBLE;
        }
        PlainRepair[] both = repairs();
        return both == null ? NONE : both[s].best[n * (n - 1) + (burnt ? n : 0) + p];
    }

    int repairedStock(int p, int s) {
        if (noProcess(p) || noStock(s)) {
            return UNKNOWN;
        }
        if (orphans() > 0) {
            return NOT_POSSIBLE;
        }
        if (repairs() == null) {
            return NONE;
        }
        int value = stockAtCut(p, s) + outside(p, s, false) - outside(p, s, true);
        for (int q = 0; q < n; q++) {
            if (q != p) {
                value += moved(q, p, s) - moved(p, q, s);
            }
        }
        return value;
    }

    int apply(boolean guarded) {
        if (orphans() > 0) {
            return NOT_POSSIBLE;
        }
        if (repairs() == null) {
            return NONE;
        }
        int[][] stocks = new int[n][2];
        for (int p = 0; p < n; p++) {
            stocks[p] = new int[] {repairedStock(p, 0), repairedStock(p, 1)};
        }
        State anew = fresh(stocks);
        for (int p = 0; p < n; p++) {
            for (int q = 0; q < n; q++) {
                for (Item item : crossing(p, q)) {
                    Item kept = new Item();
                    kept.stock = item.stock;
                    kept.amount = item.amount;
                    anew.channels.get(p).get(q).add(kept);
                    anew.everPut.get(p).get(q).add(kept);
                }
            }
        }
        List<Event> again = new ArrayList<>();
        for (Event e : state.events) {
            if (!inCut(e)) {
                again.add(e);
            }
        }
        before = state;
        state = anew;
        int happened = 0;
        for (Event e : again) {
            happened += tryAgain(e, guarded) ? 1 : 0;
        }
        return happened;
    }

    private boolean tryAgain(Event e, boolean guarded) {
        if (guarded && wouldBreak(e)) {
            return false;
        }
        return happensAgain(e) >= 0;
    }

    private int happensAgain(Event e) {
        return e.kind == 0 ? change(e.process, e.stock, e.amount)
            : e.kind == 1 ? send(e.process, e.other, e.stock, e.amount) : receive(e.process, e.other);
    }

    private boolean wouldBreak(Event e) {
        int[][] stocks = copy(state.stocks);
        int[] transit = presentTransit();
        int brokenBefore = brokenBy(stocks, transit);
        if (e.kind == 0) {
            stocks[e.process][e.stock] += e.amount;
        } else if (e.kind == 1) {
            stocks[e.process][e.stock] -= e.amount;
            transit[e.stock] += e.amount;
        } else if (!channel(e.other, e.process).isEmpty()) {
            Item front = channel(e.other, e.process).get(0);
            stocks[e.process][front.stock] += front.amount;
            transit[front.stock] -= front.amount;
        }
        int brokenAfter = brokenBy(stocks, transit);
        return (brokenAfter & ~brokenBefore) != 0;
    }

    int restore() {
        if (before == null) {
            return NONE;
        }
        state = before;
        before = null;
        return state.events.size();
    }
}
