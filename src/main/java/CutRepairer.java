import java.util.Arrays;

/** A bench for repairing snapshots of a distributed system; ../shared/DOC.md tells what each call does. */
public final class CutRepairer {
    public static final int UNKNOWN = -100001;
    public static final int BAD_VALUE = -100002;
    public static final int NOT_NOW = -100003;
    public static final int NOT_POSSIBLE = -100004;
    public static final int FULL = -100005;
    public static final int NONE = -100006;
    public static final int MARKER = 1000;

    private static final int FEWEST_PROCESSES = 2;
    private static final int MOST_PROCESSES = 5;
    private static final int FIRST_PROCESSES = 3;
    private static final int STOCKS = 2;
    private static final int STOCK_LIMIT = 1000;
    private static final int AMOUNT_LIMIT = 100;
    private static final int EVENT_LIMIT = 100;
    private static final int CHANNEL_LIMIT = 6;
    // Each message comes from a call of send() of its own, and an object takes at most 512 calls.
    private static final int MESSAGE_LIMIT = 512;
    private static final int TEXT_LIMIT = 20;
    private static final int RULE_LIMIT = 12;
    private static final int COST_LIMIT = 1000;

    private static final int CHANGE = 0;
    private static final int SEND = 1;
    private static final int RECEIVE = 2;

    private static final int NOT_BEGUN = 0;
    private static final int RUNNING = 1;
    private static final int COMPLETE = 2;

    private static final int TOTAL = 8;
    private static final int TRANSIT = 9;
    private static final int AT_MOST = 0;
    private static final int AT_LEAST = 1;
    private static final int EQUAL = 2;
    // No subject of a rule comes near these values.
    private static final int BELOW_ALL = -1000000;
    private static final int ABOVE_ALL = 1000000;

    // Inside the class: no such event, message, marker, number or fault.
    private static final int NOTHING = -1;

    private final World now = new World();
    private final World before = new World();
    private boolean restorable;
    private final RuleText text = new RuleText();
    private final RuleBook rules = new RuleBook();
    private final Costs costs = new Costs();
    private final Standing standing = new Standing();
    private final Repair repair = new Repair();

    public CutRepairer() {
        startWith(FIRST_PROCESSES);
    }

    // ---- system

    public int reset(int processes) {
        if (!within(processes, FEWEST_PROCESSES, MOST_PROCESSES)) {
            return BAD_VALUE;
        }
        int previous = now.processes;
        startWith(processes);
        return previous;
    }

    public int setStock(int process, int stock, int value) {
        if (!isProcess(process) || !isStock(stock)) {
            return UNKNOWN;
        }
        if (!within(value, 0, STOCK_LIMIT)) {
            return BAD_VALUE;
        }
        if (now.history.length > 0) {
            return NOT_NOW;
        }
        int previous = now.stocks[slot(process, stock)];
        now.stocks[slot(process, stock)] = value;
        now.firstStocks[slot(process, stock)] = value;
        return previous;
    }

    public int change(int process, int stock, int amount) {
        if (!isProcess(process) || !isStock(stock)) {
            return UNKNOWN;
        }
        if (!within(amount, -AMOUNT_LIMIT, AMOUNT_LIMIT) || amount == 0) {
            return BAD_VALUE;
        }
        return now.tryChange(process, stock, amount);
    }

    public int send(int from, int to, int stock, int amount) {
        if (!isPair(from, to) || !isStock(stock)) {
            return UNKNOWN;
        }
        if (!within(amount, 1, AMOUNT_LIMIT)) {
            return BAD_VALUE;
        }
        return now.trySend(from, to, stock, amount);
    }

    public int receive(int process, int from) {
        if (!isPair(from, process)) {
            return UNKNOWN;
        }
        return now.tryReceive(process, from);
    }

    public int stock(int process, int stock) {
        if (!isProcess(process) || !isStock(stock)) {
            return UNKNOWN;
        }
        return now.stocks[slot(process, stock)];
    }

    public int inChannel(int from, int to, int k, int what) {
        if (!isPair(from, to)) {
            return UNKNOWN;
        }
        if (k < 0 || !within(what, 0, 2)) {
            return BAD_VALUE;
        }
        return now.channels.propertyAt(channelOf(from, to), k, what);
    }

    public int event(int event, int what) {
        if (!isEvent(event)) {
            return UNKNOWN;
        }
        if (!within(what, 0, 5)) {
            return BAD_VALUE;
        }
        return now.eventProperty(event, what);
    }

    public int clock(int event, int process) {
        if (!isEvent(event) || !isProcess(process)) {
            return UNKNOWN;
        }
        return now.history.clocks[event * MOST_PROCESSES + process];
    }

    public int order(int event, int other) {
        if (!isEvent(event) || !isEvent(other)) {
            return UNKNOWN;
        }
        if (now.history.happensBefore(event, other)) {
            return 1;
        }
        return now.history.happensBefore(other, event) ? -1 : 0;
    }

    public int count(int what) {
        switch (what) {
            case 0:
                return now.processes;
            case 1:
                return now.history.length;
            case 2:
                return now.channels.waitingMessages();
            case 3:
                return now.channels.waitingMarkers();
            case 4:
                return rules.size;
            case 5:
                return now.snapshot.state;
            case 6:
                return now.eventsInCut();
            case 7:
                return restorable ? 1 : 0;
            default:
                return BAD_VALUE;
        }
    }

    public int eventsOf(int process) {
        return isProcess(process) ? now.history.perProcess[process] : UNKNOWN;
    }

    // ---- snapshots and cuts

    public int beginSnapshot(int process) {
        if (!isProcess(process)) {
            return UNKNOWN;
        }
        if (now.snapshot.state == RUNNING) {
            return NOT_NOW;
        }
        now.snapshot.forget();
        now.snapshot.state = RUNNING;
        now.noteEvents(process);
        return now.channels.waitingMarkers();
    }

    public int abandonSnapshot() {
        if (now.snapshot.state != RUNNING) {
            return NOT_NOW;
        }
        int vanishing = now.channels.waitingMarkers();
        now.channels.dropMarkers();
        now.snapshot.forget();
        return vanishing;
    }

    public int recorded(int process) {
        if (!isProcess(process)) {
            return UNKNOWN;
        }
        int events = now.snapshot.events[process];
        return events == NOTHING ? NONE : events;
    }

    public int takeSnapshot() {
        if (now.snapshot.state != COMPLETE) {
            return NOT_NOW;
        }
        for (int p = 0; p < now.processes; p++) {
            now.cutEvents[p] = now.snapshot.events[p];
        }
        return now.eventsInCut();
    }

    public int setCut(int process, int events) {
        if (!isProcess(process)) {
            return UNKNOWN;
        }
        if (!within(events, 0, now.history.perProcess[process])) {
            return BAD_VALUE;
        }
        int previous = now.cutEvents[process];
        now.cutEvents[process] = events;
        return previous;
    }

    public int cut(int process) {
        return isProcess(process) ? now.cutEvents[process] : UNKNOWN;
    }

    public int orphans() {
        return now.countOrphans();
    }

    public int lowerCut() {
        int events = now.eventsInCut();
        // Each pass but the last takes at least one event out.
        for (int pass = 0; pass <= EVENT_LIMIT && now.countOrphans() > 0; pass++) {
            now.dropOrphanReceives();
        }
        return events - now.eventsInCut();
    }

    public int raiseCut() {
        int events = now.eventsInCut();
        // Each pass but the last puts at least one event in.
        for (int pass = 0; pass <= EVENT_LIMIT && now.countOrphans() > 0; pass++) {
            now.includeOrphanSends();
        }
        return now.eventsInCut() - events;
    }

    public int stockAtCut(int process, int stock) {
        if (!isProcess(process) || !isStock(stock)) {
            return UNKNOWN;
        }
        return now.cutStock(process, stock);
    }

    public int inTransit(int from, int to, int k, int what) {
        if (!isPair(from, to)) {
            return UNKNOWN;
        }
        if (k < -1 || !within(what, 0, 1)) {
            return BAD_VALUE;
        }
        if (now.countOrphans() > 0) {
            return NOT_POSSIBLE;
        }
        if (k == -1) {
            return now.countCrossing(channelOf(from, to));
        }
        int message = now.crossingAt(channelOf(from, to), k);
        if (message == NOTHING) {
            return NONE;
        }
        return what == 0 ? now.channels.stockOf[message] : now.channels.amountOf[message];
    }

    // ---- rules

    public int type(char character) {
        if (text.length >= TEXT_LIMIT) {
            return FULL;
        }
        text.append(character);
        return text.length;
    }

    public int clearText() {
        int length = text.length;
        text.length = 0;
        return length;
    }

    public int addRule() {
        int fault = text.read(now.processes);
        if (fault != NOTHING) {
            return -100 - fault;
        }
        if (rules.size >= RULE_LIMIT) {
            return FULL;
        }
        rules.append(text);
        return rules.size - 1;
    }

    public int removeRule(int rule) {
        if (!within(rule, 0, rules.size - 1)) {
            return UNKNOWN;
        }
        rules.drop(rule);
        return rules.size;
    }

    public int rule(int rule, int what) {
        if (!within(rule, 0, rules.size - 1)) {
            return UNKNOWN;
        }
        switch (what) {
            case 0:
                return rules.subjects[rule];
            case 1:
                return rules.stocks[rule];
            case 2:
                return rules.relations[rule];
            case 3:
                return rules.numbers[rule];
            default:
                return BAD_VALUE;
        }
    }

    public int broken(boolean atCut) {
        if (!atCut) {
            standing.readPresent(now);
            return rules.brokenIn(standing);
        }
        if (now.countOrphans() > 0) {
            return NOT_POSSIBLE;
        }
        standing.readCut(now);
        return rules.brokenIn(standing);
    }

    // ---- repairs

    public int setMoveCost(int from, int to, int cost) {
        if (!isPair(from, to)) {
            return UNKNOWN;
        }
        if (!within(cost, 1, COST_LIMIT)) {
            return BAD_VALUE;
        }
        int previous = costs.moves[channelOf(from, to)];
        costs.moves[channelOf(from, to)] = cost;
        return previous;
    }

    public int setOutsideCosts(int grant, int burn) {
        if (!within(grant, 1, COST_LIMIT) || !within(burn, 1, COST_LIMIT)) {
            return BAD_VALUE;
        }
        boolean changes = grant != costs.grant || burn != costs.burn;
        costs.grant = grant;
        costs.burn = burn;
        return changes ? 1 : 0;
    }

    public int repairCost() {
        int missing = findRepair();
        return missing != 0 ? missing : repair.totalCost();
    }

    public int moved(int from, int to, int stock) {
        if (!isPair(from, to) || !isStock(stock)) {
            return UNKNOWN;
        }
        int missing = findRepair();
        return missing != 0 ? missing : repair.amountMoved(from, to, stock);
    }

    public int outside(int process, int stock, boolean burnt) {
        if (!isProcess(process) || !isStock(stock)) {
            return UNKNOWN;
        }
        int missing = findRepair();
        if (missing != 0) {
            return missing;
        }
        return burnt ? repair.amountBurnt(process, stock) : repair.amountGranted(process, stock);
    }

    public int repairedStock(int process, int stock) {
        if (!isProcess(process) || !isStock(stock)) {
            return UNKNOWN;
        }
        int missing = findRepair();
        return missing != 0 ? missing : repair.stockAfter(process, stock);
    }

    public int apply(boolean guarded) {
        int missing = findRepair();
        if (missing != 0) {
            return missing;
        }
        before.copyFrom(now);
        restorable = true;
        now.beginAfterCutOf(before);
        for (int p = 0; p < now.processes; p++) {
            for (int s = 0; s < STOCKS; s++) {
                now.stocks[slot(p, s)] = repair.stockAfter(p, s);
                now.firstStocks[slot(p, s)] = repair.stockAfter(p, s);
            }
        }
        return replay(guarded);
    }

    public int restore() {
        if (!restorable) {
            return NONE;
        }
        now.copyFrom(before);
        restorable = false;
        return now.history.length;
    }

    // ---- what several calls need

    private void startWith(int processes) {
        now.begin(processes);
        rules.size = 0;
        costs.setToFirst();
        restorable = false;
    }

    /** Makes the best repair ready to be read; answers 0, or why there is none. */
    private int findRepair() {
        if (now.countOrphans() > 0) {
            return NOT_POSSIBLE;
        }
        standing.readCut(now);
        if (!repair.layOut(standing, rules, costs)) {
            return NONE;
        }
        for (Flow flow : repair.flows) {
            flow.balance();
        }
        return 0;
    }

    private int replay(boolean guarded) {
        int happened = 0;
        for (int e = 0; e < before.history.length; e++) {
            if (!before.inCut(e) && !(guarded && wouldBreak(e)) && tryAgain(e) >= 0) {
                happened++;
            }
        }
        return happened;
    }

    private int tryAgain(int event) {
        History old = before.history;
        int process = old.processOf[event];
        switch (old.kindOf[event]) {
            case CHANGE:
                return now.tryChange(process, old.stockOf[event], old.amountOf[event]);
            case SEND:
                return now.trySend(process, old.otherOf[event], old.stockOf[event], old.amountOf[event]);
            default:
                return now.tryReceive(process, old.otherOf[event]);
        }
    }

    /** Whether an event of the old history would break a rule that the present state keeps. */
    private boolean wouldBreak(int event) {
        standing.readPresent(now);
        int brokenNow = rules.brokenIn(standing);
        shiftStanding(event);
        return (rules.brokenIn(standing) & ~brokenNow) != 0;
    }

    private void shiftStanding(int event) {
        History old = before.history;
        int process = old.processOf[event];
        int stock = old.stockOf[event];
        int amount = old.amountOf[event];
        switch (old.kindOf[event]) {
            case CHANGE:
                standing.shift(process, stock, amount, 0);
                break;
            case SEND:
                standing.shift(process, stock, -amount, amount);
                break;
            default:
                // The front may hold another message now than the one that the event took.
                int front = now.channels.messageAt(channelOf(old.otherOf[event], process), 0);
                if (front != NOTHING) {
                    int held = now.channels.amountOf[front];
                    standing.shift(process, now.channels.stockOf[front], held, -held);
                }
                break;
        }
    }

    private boolean isProcess(int process) {
        return within(process, 0, now.processes - 1);
    }

    private boolean isPair(int from, int to) {
        return isProcess(from) && isProcess(to) && from != to;
    }

    private boolean isEvent(int event) {
        return within(event, 0, now.history.length - 1);
    }

    private static boolean isStock(int stock) {
        return within(stock, 0, STOCKS - 1);
    }

    private static boolean within(int value, int low, int high) {
        return value >= low && value <= high;
    }

    private static int slot(int process, int stock) {
        return process * STOCKS + stock;
    }

    private static int channelOf(int from, int to) {
        return from * MOST_PROCESSES + to;
    }

    private static void copyAll(int[] from, int[] to) {
        System.arraycopy(from, 0, to, 0, Math.min(from.length, to.length));
    }

    /** The system: stocks, channels, history, snapshot and cut. */
    private static final class World {
        int processes;
        final int[] stocks = new int[MOST_PROCESSES * STOCKS];
        final int[] firstStocks = new int[MOST_PROCESSES * STOCKS];
        final int[] cutEvents = new int[MOST_PROCESSES];
        final History history = new History();
        final Channels channels = new Channels();
        final Snapshot snapshot = new Snapshot();

        void begin(int number) {
            processes = number;
            Arrays.fill(stocks, 0);
            Arrays.fill(firstStocks, 0);
            Arrays.fill(cutEvents, 0);
            history.forget();
            channels.clearAll();
            snapshot.forget();
        }

        void copyFrom(World source) {
            processes = source.processes;
            copyAll(source.stocks, stocks);
            copyAll(source.firstStocks, firstStocks);
            copyAll(source.cutEvents, cutEvents);
            history.copyFrom(source.history);
            channels.copyFrom(source.channels);
            snapshot.copyFrom(source.snapshot);
        }

        /** Begins anew with the messages alone that cross the cut of the old system. */
        void beginAfterCutOf(World old) {
            begin(old.processes);
            for (int m = 0; m < old.channels.length; m++) {
                if (old.crossesCut(m)) {
                    channels.put(old.channels.channelOf[m], old.channels.stockOf[m],
                            old.channels.amountOf[m], NOTHING);
                }
            }
        }

        int tryChange(int process, int stock, int amount) {
            int value = stocks[slot(process, stock)] + amount;
            if (!within(value, 0, STOCK_LIMIT)) {
                return NOT_POSSIBLE;
            }
            if (history.length >= EVENT_LIMIT) {
                return FULL;
            }
            stocks[slot(process, stock)] = value;
            int event = history.add(process, CHANGE, NOTHING);
            history.describe(event, stock, amount, NONE);
            return event;
        }

        int trySend(int from, int to, int stock, int amount) {
            int value = stocks[slot(from, stock)] - amount;
            if (value < 0) {
                return NOT_POSSIBLE;
            }
            int channel = CutRepairer.channelOf(from, to);
            if (history.length >= EVENT_LIMIT || channels.length >= MESSAGE_LIMIT
                    || channels.waitingIn(channel) >= CHANNEL_LIMIT) {
                return FULL;
            }
            stocks[slot(from, stock)] = value;
            int message = channels.put(channel, stock, amount, history.length);
            int event = history.add(from, SEND, message);
            history.describe(event, stock, amount, to);
            return event;
        }

        int tryReceive(int process, int from) {
            int channel = CutRepairer.channelOf(from, process);
            int front = channels.messageAt(channel, 0);
            if (channels.markerPlace(channel) == 0) {
                takeMarker(process, channel);
                return MARKER;
            }
            if (front == NOTHING) {
                return NONE;
            }
            int stock = channels.stockOf[front];
            int amount = channels.amountOf[front];
            if (stocks[slot(process, stock)] + amount > STOCK_LIMIT) {
                return NOT_POSSIBLE;
            }
            if (history.length >= EVENT_LIMIT) {
                return FULL;
            }
            stocks[slot(process, stock)] += amount;
            int event = history.add(process, RECEIVE, front);
            history.describe(event, stock, amount, from);
            history.learnFrom(event, channels.sentBy[front]);
            channels.takenBy[front] = event;
            return event;
        }

        void takeMarker(int process, int channel) {
            channels.markerBefore[channel] = NOTHING;
            if (snapshot.events[process] == NOTHING) {
                noteEvents(process);
            }
            if (snapshot.hasAll(processes) && channels.waitingMarkers() == 0) {
                snapshot.state = COMPLETE;
            }
        }

        void noteEvents(int process) {
            snapshot.events[process] = history.perProcess[process];
            for (int to = 0; to < processes; to++) {
                if (to != process) {
                    channels.putMarker(CutRepairer.channelOf(process, to));
                }
            }
        }

        int eventProperty(int event, int what) {
            switch (what) {
                case 0:
                    return history.processOf[event];
                case 1:
                    return history.kindOf[event];
                case 2:
                    return history.stockOf[event];
                case 3:
                    return history.amountOf[event];
                case 4:
                    return history.otherOf[event];
                default:
                    return partnerOf(event);
            }
        }

        int partnerOf(int event) {
            int message = history.messageOf[event];
            if (!within(message, 0, channels.length - 1)) {
                return NONE;
            }
            int partner = history.kindOf[event] == SEND
                    ? channels.takenBy[message] : channels.sentBy[message];
            return partner == NOTHING ? NONE : partner;
        }

        int eventsInCut() {
            int events = 0;
            for (int p = 0; p < processes; p++) {
                events += cutEvents[p];
            }
            return events;
        }

        /** Whether an event is in the cut; none is not. */
        boolean inCut(int event) {
            return within(event, 0, history.length - 1)
                    && history.placeOf[event] < cutEvents[history.processOf[event]];
        }

        boolean isOrphan(int message) {
            int sent = channels.sentBy[message];
            return sent != NOTHING && !inCut(sent) && inCut(channels.takenBy[message]);
        }

        int countOrphans() {
            int orphaned = 0;
            for (int m = 0; m < channels.length; m++) {
                if (isOrphan(m)) {
                    orphaned++;
                }
            }
            return orphaned;
        }

        void dropOrphanReceives() {
            for (int m = 0; m < channels.length; m++) {
                if (isOrphan(m)) {
                    int taken = channels.takenBy[m];
                    cutEvents[history.processOf[taken]] = history.placeOf[taken];
                }
            }
        }

        void includeOrphanSends() {
            for (int m = 0; m < channels.length; m++) {
                if (isOrphan(m)) {
                    int sent = channels.sentBy[m];
                    cutEvents[history.processOf[sent]] = history.placeOf[sent] + 1;
                }
            }
        }

        int cutStock(int process, int stock) {
            int value = firstStocks[slot(process, stock)];
            for (int e = 0; e < history.length; e++) {
                if (history.processOf[e] == process && history.stockOf[e] == stock && inCut(e)) {
                    value += history.kindOf[e] == SEND ? -history.amountOf[e] : history.amountOf[e];
                }
            }
            return value;
        }

        /** Whether a message is in transit at the cut. */
        boolean crossesCut(int message) {
            int sent = channels.sentBy[message];
            return (sent == NOTHING || inCut(sent)) && !inCut(channels.takenBy[message]);
        }

        int countCrossing(int channel) {
            int crossing = 0;
            for (int m = 0; m < channels.length; m++) {
                if (channels.channelOf[m] == channel && crossesCut(m)) {
                    crossing++;
                }
            }
            return crossing;
        }

        int crossingAt(int channel, int k) {
            int ahead = 0;
            for (int m = 0; m < channels.length; m++) {
                if (channels.channelOf[m] == channel && crossesCut(m)) {
                    if (ahead == k) {
                        return m;
                    }
                    ahead++;
                }
            }
            return NOTHING;
        }
    }

    /** The events in the order in which they happened, with their vector clocks. */
    private static final class History {
        int length;
        final int[] processOf = new int[EVENT_LIMIT];
        final int[] kindOf = new int[EVENT_LIMIT];
        final int[] stockOf = new int[EVENT_LIMIT];
        final int[] amountOf = new int[EVENT_LIMIT];
        final int[] otherOf = new int[EVENT_LIMIT];
        final int[] messageOf = new int[EVENT_LIMIT];
        // How many events of the same process are ahead of the event.
        final int[] placeOf = new int[EVENT_LIMIT];
        final int[] clocks = new int[EVENT_LIMIT * MOST_PROCESSES];
        final int[] perProcess = new int[MOST_PROCESSES];

        void forget() {
            length = 0;
            Arrays.fill(perProcess, 0);
        }

        void copyFrom(History source) {
            length = source.length;
            copyAll(source.processOf, processOf);
            copyAll(source.kindOf, kindOf);
            copyAll(source.stockOf, stockOf);
            copyAll(source.amountOf, amountOf);
            copyAll(source.otherOf, otherOf);
            copyAll(source.messageOf, messageOf);
            copyAll(source.placeOf, placeOf);
            copyAll(source.clocks, clocks);
            copyAll(source.perProcess, perProcess);
        }

        /** Adds an event; the caller has seen that there is room for it. */
        int add(int process, int kind, int message) {
            int event = length;
            int latest = latestOf(process);
            processOf[event] = process;
            kindOf[event] = kind;
            messageOf[event] = message;
            placeOf[event] = perProcess[process];
            for (int q = 0; q < MOST_PROCESSES; q++) {
                clocks[event * MOST_PROCESSES + q] =
                        latest == NOTHING ? 0 : clocks[latest * MOST_PROCESSES + q];
            }
            clocks[event * MOST_PROCESSES + process]++;
            perProcess[process]++;
            length++;
            return event;
        }

        void describe(int event, int stock, int amount, int other) {
            stockOf[event] = stock;
            amountOf[event] = amount;
            otherOf[event] = other;
        }

        /** What happened before the send happens before the receive, too. */
        void learnFrom(int event, int sent) {
            if (sent == NOTHING) {
                return;
            }
            for (int q = 0; q < MOST_PROCESSES; q++) {
                int at = event * MOST_PROCESSES + q;
                clocks[at] = Math.max(clocks[at], clocks[sent * MOST_PROCESSES + q]);
            }
        }

        int latestOf(int process) {
            for (int e = length - 1; e >= 0; e--) {
                if (processOf[e] == process) {
                    return e;
                }
            }
            return NOTHING;
        }

        boolean happensBefore(int event, int other) {
            return event != other
                    && clocks[other * MOST_PROCESSES + processOf[event]] > placeOf[event];
        }
    }

    /** All messages since the history began, those of one channel in the order of the channel, and the markers. */
    private static final class Channels {
        int length;
        final int[] channelOf = new int[MESSAGE_LIMIT];
        final int[] stockOf = new int[MESSAGE_LIMIT];
        final int[] amountOf = new int[MESSAGE_LIMIT];
        final int[] sentBy = new int[MESSAGE_LIMIT];
        final int[] takenBy = new int[MESSAGE_LIMIT];
        // A channel has one marker at most, as one snapshot runs at a time: the first message that may be behind it.
        final int[] markerBefore = new int[MOST_PROCESSES * MOST_PROCESSES];

        void clearAll() {
            length = 0;
            dropMarkers();
        }

        void copyFrom(Channels source) {
            length = source.length;
            copyAll(source.channelOf, channelOf);
            copyAll(source.stockOf, stockOf);
            copyAll(source.amountOf, amountOf);
            copyAll(source.sentBy, sentBy);
            copyAll(source.takenBy, takenBy);
            copyAll(source.markerBefore, markerBefore);
        }

        /** Adds a message; the caller has seen that there is room for it. */
        int put(int channel, int stock, int amount, int sent) {
            int message = length;
            channelOf[message] = channel;
            stockOf[message] = stock;
            amountOf[message] = amount;
            sentBy[message] = sent;
            takenBy[message] = NOTHING;
            length++;
            return message;
        }

        void putMarker(int channel) {
            markerBefore[channel] = length;
        }

        void dropMarkers() {
            Arrays.fill(markerBefore, NOTHING);
        }

        int waitingMarkers() {
            int markers = 0;
            for (int c = 0; c < markerBefore.length; c++) {
                if (markerBefore[c] != NOTHING) {
                    markers++;
                }
            }
            return markers;
        }

        int waitingMessages() {
            int messages = 0;
            for (int m = 0; m < length; m++) {
                if (takenBy[m] == NOTHING) {
                    messages++;
                }
            }
            return messages;
        }

        int waitingIn(int channel) {
            return waitingAhead(channel, length);
        }

        int waitingAhead(int channel, int end) {
            int messages = 0;
            for (int m = 0; m < end; m++) {
                if (channelOf[m] == channel && takenBy[m] == NOTHING) {
                    messages++;
                }
            }
            return messages;
        }

        /** The message that has k others ahead of it in its channel, markers aside. */
        int messageAt(int channel, int k) {
            int ahead = 0;
            for (int m = 0; m < length; m++) {
                if (channelOf[m] == channel && takenBy[m] == NOTHING) {
                    if (ahead == k) {
                        return m;
                    }
                    ahead++;
                }
            }
            return NOTHING;
        }

        /** The place of the marker in its channel. */
        int markerPlace(int channel) {
            int behind = markerBefore[channel];
            return behind == NOTHING ? NOTHING : waitingAhead(channel, behind);
        }

        int propertyAt(int channel, int k, int what) {
            int marker = markerPlace(channel);
            if (marker == k) {
                return what == 0 ? STOCKS : what == 1 ? 0 : NONE;
            }
            boolean behindMarker = marker != NOTHING && k > marker;
            int message = messageAt(channel, behindMarker ? k - 1 : k);
            if (message == NOTHING) {
                return NONE;
            }
            if (what == 0) {
                return stockOf[message];
            }
            if (what == 1) {
                return amountOf[message];
            }
            return sentBy[message] == NOTHING ? NONE : sentBy[message];
        }
    }

    /** The latest snapshot. */
    private static final class Snapshot {
        int state;
        final int[] events = new int[MOST_PROCESSES];

        void forget() {
            state = NOT_BEGUN;
            Arrays.fill(events, NOTHING);
        }

        void copyFrom(Snapshot source) {
            state = source.state;
            copyAll(source.events, events);
        }

        boolean hasAll(int processes) {
            for (int p = 0; p < processes; p++) {
                if (events[p] == NOTHING) {
                    return false;
                }
            }
            return true;
        }
    }

    /** What rules ask of a state: the stocks, and the sums of the amounts in transit. */
    private static final class Standing {
        int processes;
        final int[] stocks = new int[MOST_PROCESSES * STOCKS];
        final int[] transit = new int[STOCKS];

        void readPresent(World world) {
            processes = world.processes;
            copyAll(world.stocks, stocks);
            Arrays.fill(transit, 0);
            for (int m = 0; m < world.channels.length; m++) {
                if (world.channels.takenBy[m] == NOTHING) {
                    transit[world.channels.stockOf[m]] += world.channels.amountOf[m];
                }
            }
        }

        void readCut(World world) {
            processes = world.processes;
            for (int p = 0; p < processes; p++) {
                for (int s = 0; s < STOCKS; s++) {
                    stocks[slot(p, s)] = world.cutStock(p, s);
                }
            }
            Arrays.fill(transit, 0);
            for (int m = 0; m < world.channels.length; m++) {
                if (world.crossesCut(m)) {
                    transit[world.channels.stockOf[m]] += world.channels.amountOf[m];
                }
            }
        }

        void shift(int process, int stock, int atProcess, int onTheWay) {
            stocks[slot(process, stock)] += atProcess;
            transit[stock] += onTheWay;
        }

        int valueOf(int subject, int stock) {
            if (subject == TRANSIT) {
                return transit[stock];
            }
            if (subject != TOTAL) {
                return within(subject, 0, processes - 1) ? stocks[slot(subject, stock)] : 0;
            }
            int sum = transit[stock];
            for (int p = 0; p < processes; p++) {
                sum += stocks[slot(p, stock)];
            }
            return sum;
        }
    }

    /** The text, and what the rule in it says after it has been read without a fault. */
    private static final class RuleText {
        int length;
        final char[] characters = new char[TEXT_LIMIT];
        int subject;
        int stock;
        int relation;
        int number;

        /** Appends a character; the caller has seen that there is room for it. */
        void append(char character) {
            characters[length] = character;
            length++;
        }

        /** Reads the rule; answers the fault, or NOTHING. */
        int read(int processes) {
            subject = subjectFor(characterAt(0), processes);
            if (subject == NOTHING) {
                return 0;
            }
            stock = characterAt(1) - 'a';
            if (!isStock(stock)) {
                return 1;
            }
            relation = relationFor(characterAt(2));
            if (relation == NOTHING) {
                return 2;
            }
            if (relation == EQUAL) {
                return readNumber(3);
            }
            return characterAt(3) == '=' ? readNumber(4) : 3;
        }

        int readNumber(int start) {
            int end = start;
            number = 0;
            while (end < start + 4 && within(characterAt(end), '0', '9')) {
                number = number * 10 + characterAt(end) - '0';
                end++;
            }
            return end > start && end == length ? NOTHING : end;
        }

        int subjectFor(int character, int processes) {
            if (character == '*') {
                return TOTAL;
            }
            if (character == '~') {
                return TRANSIT;
            }
            return within(character, '0', '0' + processes - 1) ? character - '0' : NOTHING;
        }

        int relationFor(int character) {
            switch (character) {
                case '<':
                    return AT_MOST;
                case '>':
                    return AT_LEAST;
                case '=':
                    return EQUAL;
                default:
                    return NOTHING;
            }
        }

        /** Behind the end there is NOTHING, which is allowed nowhere: so a text that ends early has its fault there. */
        int characterAt(int index) {
            return within(index, 0, length - 1) ? characters[index] : NOTHING;
        }
    }

    /** The rules. */
    private static final class RuleBook {
        int size;
        final int[] subjects = new int[RULE_LIMIT];
        final int[] stocks = new int[RULE_LIMIT];
        final int[] relations = new int[RULE_LIMIT];
        final int[] numbers = new int[RULE_LIMIT];

        /** Appends the rule that was read; the caller has seen that there is room for it. */
        void append(RuleText text) {
            subjects[size] = text.subject;
            stocks[size] = text.stock;
            relations[size] = text.relation;
            numbers[size] = text.number;
            size++;
        }

        void drop(int rule) {
            size--;
            for (int r = rule; r < size; r++) {
                subjects[r] = subjects[r + 1];
                stocks[r] = stocks[r + 1];
                relations[r] = relations[r + 1];
                numbers[r] = numbers[r + 1];
            }
        }

        int brokenIn(Standing standing) {
            int bits = 0;
            for (int r = 0; r < size; r++) {
                if (!isKept(r, standing)) {
                    bits |= 1 << r;
                }
            }
            return bits;
        }

        boolean isKept(int rule, Standing standing) {
            return within(standing.valueOf(subjects[rule], stocks[rule]), lowest(rule), highest(rule));
        }

        int lowest(int rule) {
            return relations[rule] == AT_MOST ? BELOW_ALL : numbers[rule];
        }

        int highest(int rule) {
            return relations[rule] == AT_LEAST ? ABOVE_ALL : numbers[rule];
        }
    }

    /** What a unit costs. */
    private static final class Costs {
        final int[] moves = new int[MOST_PROCESSES * MOST_PROCESSES];
        int grant;
        int burn;

        void setToFirst() {
            Arrays.fill(moves, 1);
            grant = 100;
            burn = 100;
        }
    }

    /** The best repair: no rule speaks of both stocks, so each stock has a flow of its own. */
    private static final class Repair {
        final Flow[] flows = {new Flow(), new Flow()};

        /** Lays out the flow of each stock; false if there is no repair. */
        boolean layOut(Standing standing, RuleBook rules, Costs costs) {
            for (int s = 0; s < STOCKS; s++) {
                flows[s].layOut(standing.processes, costs);
                if (!obey(rules, standing, s) || !flows[s].canBalance()) {
                    return false;
                }
                flows[s].load(standing, s);
            }
            return true;
        }

        /** Narrows the flow of a stock to what the rules allow; false if the transit breaks one. */
        boolean obey(RuleBook rules, Standing standing, int stock) {
            for (int r = 0; r < rules.size; r++) {
                if (rules.stocks[r] != stock) {
                    continue;
                }
                int subject = rules.subjects[r];
                if (subject == TRANSIT) {
                    if (!rules.isKept(r, standing)) {
                        return false;
                    }
                } else if (subject == TOTAL) {
                    int onTheWay = standing.transit[stock];
                    flows[stock].narrow(Flow.KEPT, Flow.OUTSIDE,
                            rules.lowest(r) - onTheWay, rules.highest(r) - onTheWay);
                } else {
                    flows[stock].narrow(subject, Flow.KEPT, rules.lowest(r), rules.highest(r));
                }
            }
            return true;
        }

        int totalCost() {
            return flows[0].plainCost() + flows[1].plainCost();
        }

        int amountMoved(int from, int to, int stock) {
            return flows[stock].along(from, to);
        }

        int amountGranted(int process, int stock) {
            return flows[stock].along(Flow.OUTSIDE, process);
        }

        int amountBurnt(int process, int stock) {
            return flows[stock].along(process, Flow.OUTSIDE);
        }

        int stockAfter(int process, int stock) {
            return flows[stock].along(process, Flow.KEPT);
        }
    }

    /**
     * The cheapest flow of one stock. Each process is a node into which its stock at the cut flows. Moves go from
     * process to process, burns to the node OUTSIDE and grants from there. What a process has after the repair
     * flows to the node KEPT, and from there, as the sum of all repaired stocks, to OUTSIDE, which has to give back
     * the sum of all stocks at the cut.
     */
    private static final class Flow {
        static final int OUTSIDE = MOST_PROCESSES;
        static final int KEPT = MOST_PROCESSES + 1;
        static final int NODES = MOST_PROCESSES + 2;
        static final int UNLIMITED = 1000000;
        static final int MOST_PUSHES = 1000000;
        static final long UNREACHED = 1L << 60;
        // 20 moves, 5 grants and 5 burns have a bit each below the cost.
        static final int COST_SHIFT = 30;

        final int[] amounts = new int[NODES * NODES];
        final int[] lows = new int[NODES * NODES];
        final int[] highs = new int[NODES * NODES];
        final long[] prices = new long[NODES * NODES];
        final int[] excess = new int[NODES];
        final long[] distances = new long[NODES];
        final int[] parents = new int[NODES];

        int along(int from, int to) {
            return amounts[arc(from, to)];
        }

        int plainCost() {
            long cost = 0;
            for (int a = 0; a < amounts.length; a++) {
                cost += amounts[a] * (prices[a] >> COST_SHIFT);
            }
            return (int) cost;
        }

        void layOut(int processes, Costs costs) {
            Arrays.fill(amounts, 0);
            Arrays.fill(lows, 0);
            Arrays.fill(highs, 0);
            Arrays.fill(prices, 0L);
            Arrays.fill(excess, 0);
            layPricedArcs(processes, costs);
            for (int p = 0; p < processes; p++) {
                highs[arc(p, KEPT)] = STOCK_LIMIT;
            }
            highs[arc(KEPT, OUTSIDE)] = processes * STOCK_LIMIT;
        }

        /** Lays the arcs in the order of the amounts of a plan: the earlier one is, the higher its bit. */
        void layPricedArcs(int processes, Costs costs) {
            int bit = COST_SHIFT - 1;
            for (int from = 0; from < processes; from++) {
                for (int to = 0; to < processes; to++) {
                    if (from != to) {
                        layPriced(arc(from, to), costs.moves[CutRepairer.channelOf(from, to)], bit);
                        bit--;
                    }
                }
            }
            for (int p = 0; p < processes; p++) {
                layPriced(arc(OUTSIDE, p), costs.grant, bit);
                bit--;
            }
            for (int p = 0; p < processes; p++) {
                layPriced(arc(p, OUTSIDE), costs.burn, bit);
                bit--;
            }
        }

        /**
         * A cycle without a node twice uses an arc once at most, forwards or backwards. So the bits below the costs
         * decide as the lexicographic order does between plans of the same cost, and a flow in which no cycle has a
         * price below 0 is the best repair, not only one of the cheapest.
         */
        void layPriced(int arc, int cost, int bit) {
            highs[arc] = UNLIMITED;
            prices[arc] = ((long) cost << COST_SHIFT) + (1L << bit);
        }

        void narrow(int from, int to, int low, int high) {
            int arc = arc(from, to);
            lows[arc] = Math.max(lows[arc], low);
            highs[arc] = Math.min(highs[arc], high);
        }

        /** Whether there are repaired stocks that keep all bounds; grants and burns can reach any of them. */
        boolean canBalance() {
            int least = 0;
            int most = 0;
            for (int p = 0; p < MOST_PROCESSES; p++) {
                if (lows[arc(p, KEPT)] > highs[arc(p, KEPT)]) {
                    return false;
                }
                least += lows[arc(p, KEPT)];
                most += highs[arc(p, KEPT)];
            }
            int sum = arc(KEPT, OUTSIDE);
            return lows[sum] <= highs[sum] && least <= highs[sum] && most >= lows[sum];
        }

        /** Keeps as much where it is as the bounds allow; the excess of each node is what does not fit then. */
        void load(Standing standing, int stock) {
            int kept = 0;
            int all = 0;
            for (int p = 0; p < standing.processes; p++) {
                int value = standing.stocks[slot(p, stock)];
                int fitting = fit(arc(p, KEPT), value);
                excess[p] = value - fitting;
                kept += fitting;
                all += value;
            }
            int sum = fit(arc(KEPT, OUTSIDE), kept);
            excess[KEPT] = kept - sum;
            excess[OUTSIDE] = sum - all;
        }

        int fit(int arc, int value) {
            amounts[arc] = Math.max(lows[arc], Math.min(highs[arc], value));
            return amounts[arc];
        }

        /** Pushes along cheapest ways until no node has an excess; so no cycle gets a price below 0. */
        void balance() {
            boolean pushed = true;
            for (int push = 0; push < MOST_PUSHES && pushed; push++) {
                findWays();
                int target = nearestLack();
                pushed = target != NOTHING && pushTo(target);
            }
        }

        void findWays() {
            for (int v = 0; v < NODES; v++) {
                distances[v] = excess[v] > 0 ? 0 : UNREACHED;
                parents[v] = NOTHING;
            }
            boolean shorter = true;
            for (int round = 0; round < NODES && shorter; round++) {
                shorter = false;
                for (int u = 0; u < NODES; u++) {
                    if (distances[u] < UNREACHED && shortenFrom(u)) {
                        shorter = true;
                    }
                }
            }
        }

        boolean shortenFrom(int u) {
            boolean shorter = false;
            for (int v = 0; v < NODES; v++) {
                if (v != u && room(u, v) > 0 && distances[u] + price(u, v) < distances[v]) {
                    distances[v] = distances[u] + price(u, v);
                    parents[v] = u;
                    shorter = true;
                }
            }
            return shorter;
        }

        int nearestLack() {
            int nearest = NOTHING;
            for (int v = 0; v < NODES; v++) {
                if (excess[v] < 0 && distances[v] < UNREACHED
                        && (nearest == NOTHING || distances[v] < distances[nearest])) {
                    nearest = v;
                }
            }
            return nearest;
        }

        boolean pushTo(int target) {
            int units = -excess[target];
            int start = target;
            for (int step = 0; step < NODES && parents[start] != NOTHING; step++) {
                units = Math.min(units, room(parents[start], start));
                start = parents[start];
            }
            units = Math.min(units, excess[start]);
            if (units <= 0) {
                return false;
            }
            int at = target;
            for (int step = 0; step < NODES && parents[at] != NOTHING; step++) {
                shiftUnits(parents[at], at, units);
                at = parents[at];
            }
            excess[target] += units;
            excess[start] -= units;
            return true;
        }

        void shiftUnits(int u, int v, int units) {
            int back = arc(v, u);
            if (canTakeBack(back)) {
                amounts[back] -= units;
            } else {
                amounts[arc(u, v)] += units;
            }
        }

        /** Taking back comes first, as it never costs anything. */
        int room(int u, int v) {
            int back = arc(v, u);
            int ahead = arc(u, v);
            return canTakeBack(back) ? amounts[back] - lows[back] : highs[ahead] - amounts[ahead];
        }

        long price(int u, int v) {
            int back = arc(v, u);
            return canTakeBack(back) ? -prices[back] : prices[arc(u, v)];
        }

        boolean canTakeBack(int arc) {
            return amounts[arc] > lows[arc];
        }

        static int arc(int from, int to) {
            return from * NODES + to;
        }
    }
}
