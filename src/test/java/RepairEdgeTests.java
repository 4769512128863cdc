/** The boundary cases of the sections REPAIRS and REPLAY and of the promises 31 to 38, sentence by sentence. */
public final class RepairEdgeTests extends Edges {
    private static final Story NEW = Story.of();
    private static final Story BUSY = busy();
    private static final Story TWO = Story.of(reset(2));
    private static final Story ORPHAN = Story.of(setStock(0, 0, 9), send(0, 1, 0, 9), receive(1, 0), setCut(1, 1));

    private RepairEdgeTests() {
    }

    public static void main(String[] args) {
        amountsOfAtLeast0();
        repairedStocksFrom0To1000();
        totalOfARepair();
        transitOfARepair();
        keptRulesNeedNothing();
        costsAreThoseOfEitherStock();
        eachAnswerIsForTheRulesAndStocksOfNow();
        orderDoesNotMatter();
        costsAtFirst();
        bestOfSeveral();
        replayBeginsAnew();
        replayTriesAllNotInTheCut();
        replayLeavesOutNotPossible();
        replayLeavesOutFull();
        replayLeavesOutNone();
        replayGuarded();
        restoredOnce();
        setMoveCostTakes1To1000();
        setOutsideCostsTakes1To1000();
        repairCostEdges();
        questionsUnknown();
        questionsNotPossibleAndNone();
        applyNotPossibleAndNone();
        applyFrom0To100();
        restoreNone();
        restoreTheLatest();
        restoreLeavesRulesCostsAndText();
        end();
    }

    private static Story stocks(int... stocksA) {
        Story story = Story.of(reset(stocksA.length));
        for (int p = 0; p < stocksA.length; p++) {
            story = story.then(setStock(p, 0, stocksA[p]));
        }
        return story;
    }

    private static void noRepair(Story story) {
        refused(story, repairCost().is(NONE), moved(0, 1, 0).is(NONE), outside(0, 0, false).is(NONE),
            repairedStock(0, 0).is(NONE), apply(false).is(NONE), apply(true).is(NONE));
    }

    // ---- REPAIRS

    private static void amountsOfAtLeast0() {
        sentence("REPAIRS", "A plan for a consistent cut has amounts, integers of at least 0");
        run(stocks(50, 0), repairCost().is(0), moved(0, 1, 0).is(0), moved(1, 0, 0).is(0), outside(0, 0, false).is(0),
            outside(0, 0, true).is(0), outside(1, 0, false).is(0), outside(1, 0, true).is(0));
        // What is moved to one is not told as less moved from it, and what is burnt not as less granted.
        run(stocks(50, 0).ruled("1a=1"), moved(0, 1, 0).is(1), moved(1, 0, 0).is(0));
        run(stocks(50, 0).ruled("*a=49"), outside(1, 0, true).is(0), outside(0, 0, true).is(1),
            outside(0, 0, false).is(0), outside(1, 0, false).is(0));
    }

    private static void repairedStocksFrom0To1000() {
        sentence("REPAIRS", "The plan is a repair if all repaired stocks are from 0 to 1000");
        for (int s = 0; s < 2; s++) {
            char stock = s == 0 ? 'a' : 'b';
            run(TWO.ruled("0" + stock + ">=1000"), repairCost().is(100000), repairedStock(0, s).is(1000));
            run(TWO.ruled("0" + stock + "=1000"), repairCost().is(100000), outside(0, s, false).is(1000));
            noRepair(TWO.ruled("0" + stock + ">=1001"));
            noRepair(TWO.ruled("0" + stock + "=1001"));
            Story high = TWO.then(setStock(0, s, 1000));
            run(high.ruled("0" + stock + "<=1001"), repairCost().is(0), repairedStock(0, s).is(1000));
            run(high.ruled("0" + stock + "<=0"), repairCost().is(1000), repairedStock(0, s).is(0),
                moved(0, 1, s).is(1000));
            run(high.ruled("0" + stock + "=0", "1" + stock + "=0"), repairCost().is(100000), repairedStock(0, s).is(0),
                repairedStock(1, s).is(0), outside(0, s, true).is(1000));
            // The other one has room for 1000, for 1 or for none.
            run(high.then(setStock(1, s, 999)).ruled("0" + stock + "<=999"), moved(0, 1, s).is(1), repairCost().is(1));
            run(high.then(setStock(1, s, 1000)).ruled("0" + stock + "<=999"), moved(0, 1, s).is(0),
                repairCost().is(100), outside(0, s, true).is(1));
        }
        noRepair(TWO.ruled("0a>=5", "0a<=4"));
        noRepair(TWO.ruled("0a=5", "0a=4"));
        run(TWO.ruled("0a>=5", "0a<=5"), repairCost().is(500));
    }

    private static void totalOfARepair() {
        sentence("REPAIRS",
            "and the state with the repaired stocks and the messages in transit at the cut keeps all rules.");
        for (int n = 2; n <= 5; n++) {
            Story story = Story.of(reset(n));
            run(story.ruled("*a>=" + n * 1000), repairCost().is(n * 100000), repairedStock(n - 1, 0).is(1000));
            noRepair(story.ruled("*a>=" + (n * 1000 + 1)));
            noRepair(story.ruled("*b=" + (n * 1000 + 1)));
            run(story.ruled("*a<=" + (n * 1000 + 1)), repairCost().is(0));
        }
        noRepair(TWO.ruled("0a=10", "1a=10", "*a<=19"));
        run(TWO.ruled("0a=10", "1a=10", "*a<=20"), repairCost().is(2000));
        run(TWO.ruled("0a<=10", "1a<=10", "*a>=20"), repairCost().is(2000));
        noRepair(TWO.ruled("0a<=10", "1a<=10", "*a>=21"));
        run(TWO.ruled("*a<=5", "*a>=5"), repairCost().is(500));
        noRepair(TWO.ruled("*a<=4", "*a>=5"));
        // Five units are on their way: they cannot be burnt, and they count for the total.
        Story five = stocks(50, 0).then(send(0, 1, 0, 5), setCut(0, 1));
        run(five.ruled("*a=5"), repairCost().is(4500), repairedStock(0, 0).is(0));
        noRepair(five.ruled("*a<=4"));
        run(five.ruled("*a>=2005"), repairCost().is(195500), repairedStock(0, 0).is(1000),
            repairedStock(1, 0).is(1000));
        noRepair(five.ruled("*a>=2006"));
        run(five.ruled("*a=50"), repairCost().is(0));
    }

    private static void transitOfARepair() {
        sentence("REPAIRS",
            "the state with the repaired stocks and the messages in transit at the cut keeps all rules.");
        Story five = stocks(50, 0).then(send(0, 1, 0, 5), receive(1, 0), setCut(0, 1));
        run(five.ruled("~a=5"), repairCost().is(0));
        run(five.ruled("~a<=5", "~a>=5"), repairCost().is(0));
        noRepair(five.ruled("~a<=4"));
        noRepair(five.ruled("~a>=6"));
        noRepair(five.ruled("~b>=1"));
        run(five.ruled("~a<=4"), setCut(1, 1).is(0), repairCost().is(0), setCut(1, 0).is(1), setCut(0, 0).is(1),
            repairCost().is(0));
    }

    private static void keptRulesNeedNothing() {
        sentence("REPAIRS", "The best repair is the repair with the least cost.");
        run(stocks(50, 7).ruled("0a<=50", "0a>=50", "1a=7", "*a=57", "~a=0"), repairCost().is(0), moved(0, 1, 0).is(0));
        run(stocks(50, 7).ruled("0a<=49"), repairCost().is(1), moved(0, 1, 0).is(1));
        run(stocks(50, 7).ruled("0a>=51"), repairCost().is(1), moved(1, 0, 0).is(1));
        run(stocks(50, 7).ruled("*a>=58"), repairCost().is(100));
        run(stocks(50, 7).ruled("*a<=56"), repairCost().is(100));
        // A grant and a burn in place of a move: dearer, as dear, cheaper.
        Story dear = stocks(50, 7).ruled("0a=49", "1a=8");
        run(dear.then(setMoveCost(0, 1, 199)), moved(0, 1, 0).is(1), repairCost().is(199));
        run(dear.then(setMoveCost(0, 1, 200)), moved(0, 1, 0).is(0), repairCost().is(200), outside(0, 0, true).is(1),
            outside(1, 0, false).is(1));
        run(dear.then(setMoveCost(0, 1, 201)), moved(0, 1, 0).is(0), repairCost().is(200));
    }

    private static void costsAreThoseOfEitherStock() {
        sentence("REPAIRS", "a cost ... of moving one unit from the first to the second one (of either stock)");
        Story both = Story.of(reset(2), setStock(0, 0, 5), setStock(0, 1, 5), setMoveCost(0, 1, 4));
        run(both.ruled("1a=1"), repairCost().is(4));
        run(both.ruled("1b=1"), repairCost().is(4));
        run(both.ruled("1a=1", "1b=2"), repairCost().is(12), moved(0, 1, 0).is(1), moved(0, 1, 1).is(2));
        run(both.ruled("*a=6", "*b=3").then(setOutsideCosts(7, 9)), repairCost().is(25));
    }

    private static void eachAnswerIsForTheRulesAndStocksOfNow() {
        sentence("promise 33", "Returns the cost of the best repair");
        Story twice = stocks(50, 0).ruled("0a=49", "1a>=10", "*a>=60");
        run(twice, repairCost().is(1001), removeRule(2).is(2), repairCost().is(901), removeRule(1).is(1),
            repairCost().is(1),
            removeRule(0).is(0), repairCost().is(0), moved(0, 1, 0).is(0), outside(1, 0, false).is(0));
        Story five = Story.of(reset(5)).ruled("4a>=1000", "*a>=5000");
        run(five, repairCost().is(500000), repairedStock(4, 0).is(1000), reset(2).is(5), repairCost().is(0));
        noRepair(five.then(repairCost(), reset(2)).ruled("*a>=2001"));
        run(five.then(repairCost(), reset(2)).ruled("*a>=2000"), repairCost().is(200000));
    }

    private static void orderDoesNotMatter() {
        sentence("REPAIRS", "It does not matter in which order this is done.");
        Story full = stocks(10, 1000, 0).ruled("0a=0", "1a=1000", "2a=10").then(setMoveCost(0, 2, 3));
        run(full, moved(0, 1, 0).is(10), moved(1, 2, 0).is(10), moved(0, 2, 0).is(0), repairCost().is(20));
        Story empty = stocks(10, 0, 1000).ruled("0a=1000", "1a=0", "2a=10").then(setMoveCost(2, 0, 3));
        run(empty, moved(2, 1, 0).is(990), moved(1, 0, 0).is(990), moved(2, 0, 0).is(0), repairCost().is(1980));
    }

    private static void costsAtFirst() {
        sentence("REPAIRS",
            "a cost, 1 at first, of moving ...; a cost of granting ... and a cost of burning ..., 100 each at first.");
        for (int n = 2; n <= 5; n++) {
            for (int p = 0; p < n; p++) {
                for (int q = 0; q < n; q++) {
                    run(Story.of(reset(n)), setMoveCost(p, q, 1).is(p == q ? UNKNOWN : 1));
                }
            }
        }
        run(NEW, setOutsideCosts(100, 100).is(0));
        run(stocks(5, 0).ruled("1a=1"), repairCost().is(1));
        run(stocks(5, 0).ruled("*a=6"), repairCost().is(100));
        run(stocks(5, 0).ruled("*a=4"), repairCost().is(100));
    }

    private static void bestOfSeveral() {
        sentence("REPAIRS", "If there are several, it is the first one in lexicographic order");
        // The later move is taken as far as it goes, the earlier one only for the rest.
        run(stocks(10, 10, 0).ruled("2a=10"), moved(0, 2, 0).is(0), moved(1, 2, 0).is(10));
        run(stocks(10, 10, 0).ruled("2a=11"), moved(0, 2, 0).is(1), moved(1, 2, 0).is(10));
        run(stocks(50, 0, 1000).ruled("0a=49"), moved(0, 1, 0).is(1), moved(0, 2, 0).is(0));
        run(stocks(50, 0, 999).ruled("0a=48"), moved(0, 1, 0).is(1), moved(0, 2, 0).is(1));
        run(stocks(50, 0, 998).ruled("0a=48"), moved(0, 1, 0).is(0), moved(0, 2, 0).is(2));
        sentence("REPAIRS",
            "the moves ..., then the grants to 0, 1, and so on, then the burns; then for stock b likewise.");
        run(stocks(0, 0, 999).ruled("*a=1000"), outside(0, 0, false).is(0), outside(1, 0, false).is(0),
            outside(2, 0, false).is(1));
        run(stocks(0, 0, 999).ruled("*a=1001"), outside(1, 0, false).is(1), outside(2, 0, false).is(1));
        run(stocks(5, 5, 1).ruled("*a=10"), outside(0, 0, true).is(0), outside(1, 0, true).is(0),
            outside(2, 0, true).is(1));
        run(stocks(5, 5, 1).ruled("*a=9"), outside(1, 0, true).is(1), outside(2, 0, true).is(1));
        // A move as dear as a grant comes earlier in the order, so it is the one that is spared.
        run(stocks(5, 0).ruled("1a=1").then(setMoveCost(0, 1, 100)), moved(0, 1, 0).is(0), outside(1, 0, false).is(1));
        run(stocks(5, 0).ruled("1a=1").then(setMoveCost(0, 1, 99)), moved(0, 1, 0).is(1), outside(1, 0, false).is(0));
        // A grant as dear as a move of what is there: with five processes all amounts have their places.
        Story ring = stocks(1, 0, 0, 0, 0).ruled("0a=0");
        run(ring, moved(0, 4, 0).is(1), moved(0, 1, 0).is(0), moved(0, 2, 0).is(0), moved(0, 3, 0).is(0));
        run(ring.then(setOutsideCosts(1, 1)), moved(0, 4, 0).is(0), outside(0, 0, true).is(1));
        Story both = Story.of(reset(2), setStock(0, 0, 1), setStock(0, 1, 1)).ruled("0a=0", "0b=0");
        run(both, moved(0, 1, 0).is(1), moved(0, 1, 1).is(1), moved(1, 0, 0).is(0), moved(1, 0, 1).is(0),
            repairCost().is(2));
    }

    // ---- REPLAY

    private static void replayBeginsAnew() {
        sentence("REPLAY",
            "the messages in transit at the cut stay in their channels, markers and the snapshot vanish, ...");
        run(BUSY, apply(false).is(2), count(3).is(0), count(5).is(0), count(6).is(0), recorded(0).is(NONE),
            count(1).is(2));
        Story all = Story.of(setStock(0, 0, 50), send(0, 1, 0, 5), beginSnapshot(0), send(0, 1, 0, 6), setCut(0, 2));
        run(all, apply(false).is(0), count(1).is(0), count(2).is(2), count(3).is(0), count(5).is(0), cut(0).is(0),
            inChannel(0, 1, 0, 1).is(5), inChannel(0, 1, 1, 1).is(6), inChannel(0, 1, 2, 0).is(NONE),
            inChannel(0, 1, 0, 2).is(NONE), event(0, 0).is(UNKNOWN), stock(0, 0).is(39));
        // None is in transit: behind the empty cut all begins at the first stocks.
        run(all.then(setCut(0, 0)), apply(false).is(2), count(2).is(2), inChannel(0, 1, 0, 2).is(0),
            stock(0, 0).is(39));
    }

    private static void replayTriesAllNotInTheCut() {
        sentence("REPLAY",
            "Then all events that were not in the cut are tried once more, in the order of their numbers");
        Story three = Story.of(change(0, 0, 10), change(1, 0, 20), change(0, 0, 30), change(1, 0, 40));
        run(three.then(apply(false).is(4)), event(0, 3).is(10), event(3, 3).is(40), event(4, 3).is(UNKNOWN));
        run(three.then(setCut(0, 1), apply(false).is(3)), event(0, 3).is(20), event(1, 3).is(30), event(2, 3).is(40));
        run(three.then(setCut(0, 2), setCut(1, 1), apply(false).is(1)), event(0, 3).is(40), eventsOf(0).is(0));
        run(three.then(setCut(0, 2), setCut(1, 2), apply(false).is(0)), count(1).is(0), stock(1, 0).is(60));
        run(withEvents(NEW, 100).then(setCut(0, 1)), apply(false).is(99), count(1).is(99), change(1, 0, 1).is(99),
            change(1, 0, 1).is(FULL));
    }

    private static void replayLeavesOutNotPossible() {
        sentence("REPLAY", "One for which the call would return NOT_POSSIBLE ... now is left out");
        // The repair leaves process 0 just as much as its changes and sends need, or 1 less.
        Story down = stocks(50, 0).then(change(0, 0, -30));
        run(down.ruled("0a=30"), apply(false).is(1), stock(0, 0).is(0));
        run(down.ruled("0a=29"), apply(false).is(0), stock(0, 0).is(29));
        Story sent = stocks(50, 0).then(send(0, 1, 0, 30));
        run(sent.ruled("0a=30"), apply(false).is(1), stock(0, 0).is(0), count(2).is(1));
        run(sent.ruled("0a=29"), apply(false).is(0), stock(0, 0).is(29), count(2).is(0));
        Story up = stocks(950, 0).then(change(0, 0, 30));
        run(up.ruled("0a=970"), apply(false).is(1), stock(0, 0).is(1000));
        run(up.ruled("0a=971"), apply(false).is(0), stock(0, 0).is(971));
        sentence("REPLAY", "a receive that is left out leaves the message in its channel.");
        Story received = stocks(50, 950).then(send(0, 1, 0, 30), setCut(0, 1), receive(1, 0));
        run(received.ruled("1a=970"), apply(false).is(1), stock(1, 0).is(1000), count(2).is(0));
        run(received.ruled("1a=971"), apply(false).is(0), stock(1, 0).is(971), count(2).is(1),
            inChannel(0, 1, 0, 1).is(30));
    }

    private static void replayLeavesOutFull() {
        sentence("REPLAY", "One for which the call would return ... FULL ... now is left out");
        // So many are in transit, as all receives are left out of the cut; the last send comes before them or between.
        Story sixth = stocks(50, 0).times(5, send(0, 1, 0, 1)).then(setCut(0, 5), send(0, 1, 0, 1));
        run(sixth, apply(false).is(1), count(2).is(6));
        Story seventh = stocks(50, 0).times(6, send(0, 1, 0, 1)).then(receive(1, 0), send(0, 1, 0, 2), setCut(0, 6));
        run(seventh, apply(false).is(2), count(2).is(6), inChannel(0, 1, 5, 1).is(2), send(0, 1, 0, 1).is(FULL));
        // The receive does not happen again, so there are six when the send is tried: it is left out.
        run(seventh.ruled("1a<=0"), apply(true).is(0), count(2).is(6), inChannel(0, 1, 5, 1).is(1));
        run(seventh.ruled("~a>=6"), apply(true).is(0), count(2).is(6));
        run(seventh.ruled("~a>=5"), apply(true).is(2), count(2).is(6));
        Story eight = stocks(50, 0).times(6, send(0, 1, 0, 1)).times(2, receive(1, 0), send(0, 1, 0, 1))
            .then(receive(1, 0), send(0, 1, 0, 9), setCut(0, 8));
        run(eight, inTransit(0, 1, -1, 0).is(8), apply(false).is(4), count(2).is(6), inChannel(0, 1, 5, 1).is(9));
        run(eight.ruled("1a<=2"), apply(true).is(2), count(2).is(6), inChannel(0, 1, 5, 1).is(1));
        run(eight.ruled("1a<=1"), apply(true).is(1), count(2).is(7));
    }

    private static void replayLeavesOutNone() {
        sentence("REPLAY", "One for which the call would return ... NONE now is left out");
        Story story = stocks(50, 0).then(send(0, 1, 0, 30), receive(1, 0));
        run(story.ruled("0a=30"), apply(false).is(2), stock(1, 0).is(50));
        run(story.ruled("0a=29"), apply(false).is(0), stock(1, 0).is(21), count(1).is(0));
        sentence("REPLAY", "a receive from its channel (whatever message is at the front of it)");
        Story other = stocks(50, 0).then(setStock(0, 1, 9), send(0, 1, 0, 30), send(0, 1, 1, 9), receive(1, 0),
            receive(1, 0));
        run(other.ruled("0a=29"), apply(false).is(2), event(1, 1).is(2), event(1, 2).is(1), event(1, 3).is(9),
            event(1, 5).is(0), stock(1, 1).is(9));
    }

    private static void replayGuarded() {
        sentence("REPLAY",
            "left out if there is a rule that the present state keeps before it and would break after it.");
        Story change = stocks(50, 0).then(change(0, 0, -30));
        run(change.ruled("0a>=20"), apply(true).is(1), stock(0, 0).is(20));
        run(change.ruled("0a>=21"), apply(true).is(0), stock(0, 0).is(50));
        run(change.ruled("0a>=21"), apply(false).is(1), stock(0, 0).is(20));
        run(change.ruled("*a>=20"), apply(true).is(1));
        run(change.ruled("*a>=21"), apply(true).is(0));
        run(change.ruled("0a=50"), apply(true).is(0));
        Story up = stocks(50, 0).then(change(0, 0, 30));
        run(up.ruled("0a<=80"), apply(true).is(1));
        run(up.ruled("0a<=79"), apply(true).is(0));
        Story sent = stocks(50, 0).then(send(0, 1, 0, 30));
        run(sent.ruled("~a<=30", "0a>=20", "*a=50"), apply(true).is(1), count(2).is(1));
        run(sent.ruled("~a<=29"), apply(true).is(0), count(2).is(0));
        run(sent.ruled("0a>=21"), apply(true).is(0));
        Story received = sent.then(receive(1, 0));
        run(received.ruled("1a<=30", "~a>=0", "*a=50"), apply(true).is(2));
        run(received.ruled("1a<=29"), apply(true).is(1), count(2).is(1));
        Story transit = sent.then(setCut(0, 1), receive(1, 0));
        run(transit.ruled("~a<=30", "~a>=0"), apply(true).is(1));
        run(transit.ruled("~a>=1"), apply(true).is(0), inChannel(0, 1, 0, 1).is(30));
        run(transit.ruled("~a=30"), apply(true).is(0));
        run(transit.ruled("~a=30"), apply(false).is(1));
        // Each event is held against all rules, and those that happened before it count.
        Story several = stocks(50, 0).then(send(0, 1, 0, 30), setCut(0, 1), receive(1, 0), change(0, 0, -5),
            change(0, 0, -5));
        run(several.ruled("~a>=30", "0a>=20"), apply(true).is(0), broken(false).is(0));
        run(several.ruled("~a>=30", "0a>=15"), apply(true).is(1), stock(0, 0).is(15), broken(false).is(0));
        run(several.ruled("~a>=30", "0a>=10"), apply(true).is(2), stock(0, 0).is(10), broken(false).is(0));
        run(several.ruled("~a>=30", "0a>=20"), apply(false).is(3), broken(false).is(0b11));
    }

    private static void restoredOnce() {
        sentence("REPLAY",
            "What the system was before (stocks, channels, history, snapshot, cut) can be restored once.");
        Story rich = Story.of(setStock(0, 0, 50), setStock(1, 1, 40), send(0, 1, 0, 9), send(0, 1, 0, 8), receive(1, 0),
            change(2, 0, 5), send(1, 2, 1, 7), beginSnapshot(1), send(1, 0, 1, 3), receive(0, 1), setCut(0, 1),
            setCut(2, 1))
            .ruled("2a>=9", "~b<=30");
        same("restored", rich, rich.then(apply(false), change(0, 0, 1), setCut(0, 1), beginSnapshot(2), restore()));
        same("restored at once", rich, rich.then(apply(true), restore()));
        same("restored with stocks set anew", rich, rich.then(setCut(0, 2), setCut(1, 3), setCut(2, 1), apply(false),
            setStock(0, 0, 7), restore(), setCut(0, 1), setCut(1, 0)));
        run(BUSY, apply(true).is(0), count(7).is(1), restore().is(5), count(7).is(0), restore().is(NONE));
        refused(BUSY.then(apply(true), restore()), restore().is(NONE));
    }

    // ---- promises 31 and 32

    private static void setMoveCostTakes1To1000() {
        sentence("promise 31", "cost: 1 to 1000");
        run(NEW, setMoveCost(0, 1, 1000).is(1), setMoveCost(0, 1, 1).is(1000), setMoveCost(0, 1, 2).is(1),
            setMoveCost(0, 1, 999).is(2), setMoveCost(1, 0, 7).is(1), setMoveCost(0, 1, 1).is(999));
        Story dear = stocks(50, 0).ruled("1a=3");
        run(dear.then(setMoveCost(0, 1, 1000), setOutsideCosts(1000, 1000)), repairCost().is(3000));
        run(dear.then(setMoveCost(0, 1, 1)), repairCost().is(3));
        for (int wrong : new int[] {0, -1, 1001, MIN, MAX}) {
            refused(BUSY, setMoveCost(0, 1, wrong).is(BAD_VALUE), setMoveCost(2, 1, wrong).is(BAD_VALUE),
                setMoveCost(1, 1, wrong).is(UNKNOWN), setMoveCost(3, 1, wrong).is(UNKNOWN));
        }
        run(BUSY, setMoveCost(0, 1, 0).is(BAD_VALUE), setMoveCost(0, 1, 1001).is(BAD_VALUE),
            setMoveCost(0, 1, 5).is(3));
    }

    private static void setOutsideCostsTakes1To1000() {
        sentence("promise 32", "grant: 1 to 1000, burn: 1 to 1000");
        run(NEW, setOutsideCosts(1, 1).is(1), setOutsideCosts(1000, 1000).is(1), setOutsideCosts(1, 1000).is(1),
            setOutsideCosts(1000, 1).is(1), setOutsideCosts(1000, 1).is(0));
        run(stocks(5, 0).ruled("*a=6").then(setOutsideCosts(1000, 1)), repairCost().is(1000));
        run(stocks(5, 0).ruled("*a=6").then(setOutsideCosts(1, 1000)), repairCost().is(1));
        run(stocks(5, 0).ruled("*a=4").then(setOutsideCosts(1, 1000)), repairCost().is(1000));
        run(stocks(5, 0).ruled("*a=4").then(setOutsideCosts(1000, 1)), repairCost().is(1));
        for (int wrong : new int[] {0, -1, 1001, MIN, MAX}) {
            refused(BUSY, setOutsideCosts(wrong, 5).is(BAD_VALUE), setOutsideCosts(5, wrong).is(BAD_VALUE),
                setOutsideCosts(wrong, wrong).is(BAD_VALUE), setOutsideCosts(7, wrong).is(BAD_VALUE),
                setOutsideCosts(wrong, 9).is(BAD_VALUE));
            run(BUSY, setOutsideCosts(8, wrong).is(BAD_VALUE), setOutsideCosts(wrong, 8).is(BAD_VALUE),
                setOutsideCosts(7, 9).is(0));
        }
        sentence("promise 32", "Returns 1 if one of them changes, otherwise 0");
        run(BUSY, setOutsideCosts(7, 9).is(0), setOutsideCosts(8, 9).is(1), setOutsideCosts(8, 10).is(1),
            setOutsideCosts(9, 11).is(1), setOutsideCosts(9, 11).is(0));
    }

    // ---- promises 33 to 36

    private static void repairCostEdges() {
        sentence("promise 33", "Returns the cost of the best repair; NOT_POSSIBLE ...; NONE if there is no repair.");
        run(NEW, repairCost().is(0));
        Story most = Story.of(reset(5));
        for (int p = 0; p < 5; p++) {
            most = most.then(setStock(p, 0, 1000), setStock(p, 1, 1000));
        }
        run(most.ruled("*a=0", "*b=0").then(setOutsideCosts(1, 1000)), repairCost().is(10000000));
        run(Story.of(reset(5)).ruled("*a=5000", "*b=5000").then(setOutsideCosts(1000, 1)), repairCost().is(10000000));
        run(stocks(1000, 0).ruled("0a=0", "1a=1000").then(setMoveCost(0, 1, 1000), setOutsideCosts(1000, 1000)),
            repairCost().is(1000000), moved(0, 1, 0).is(1000));
        run(stocks(1000, 0).ruled("0a=0", "1a=1000").then(setMoveCost(0, 1, 1000), setOutsideCosts(499, 500)),
            repairCost().is(999000), moved(0, 1, 0).is(0), outside(1, 0, false).is(1000), outside(0, 0, true).is(1000));
    }

    private static void questionsUnknown() {
        sentence("promises 34 to 36", "Returns ...; UNKNOWN; NOT_POSSIBLE ...; NONE ...");
        for (Story story : new Story[] {NEW, ORPHAN, NEW.ruled("0a>=1001")}) {
            for (int wrong : new int[] {-1, 3, MIN, MAX}) {
                refused(story, moved(wrong, 0, 0).is(UNKNOWN), moved(0, wrong, 0).is(UNKNOWN),
                    outside(wrong, 0, false).is(UNKNOWN), outside(wrong, 0, true).is(UNKNOWN),
                    repairedStock(wrong, 0).is(UNKNOWN));
            }
            for (int wrong : new int[] {-1, 2, MIN, MAX}) {
                refused(story, moved(0, 1, wrong).is(UNKNOWN), outside(0, wrong, false).is(UNKNOWN),
                    outside(0, wrong, true).is(UNKNOWN), repairedStock(0, wrong).is(UNKNOWN));
            }
            refused(story, moved(0, 0, 0).is(UNKNOWN), moved(2, 2, 1).is(UNKNOWN));
        }
        run(NEW, moved(2, 0, 1).is(0), moved(0, 2, 1).is(0), outside(2, 1, true).is(0), repairedStock(2, 1).is(0));
    }

    private static void questionsNotPossibleAndNone() {
        sentence("promises 33 to 36", "NOT_POSSIBLE if the cut is not consistent; NONE if there is no repair.");
        Story impossible = ORPHAN.ruled("0b>=1001");
        for (Story story : new Story[] {ORPHAN, impossible}) {
            refused(story, repairCost().is(NOT_POSSIBLE), moved(0, 1, 0).is(NOT_POSSIBLE),
                moved(2, 1, 1).is(NOT_POSSIBLE),
                outside(0, 0, false).is(NOT_POSSIBLE), outside(2, 1, true).is(NOT_POSSIBLE),
                repairedStock(0, 0).is(NOT_POSSIBLE), repairedStock(2, 1).is(NOT_POSSIBLE));
        }
        // That there is no repair of one stock means that there is none at all.
        Story none = impossible.then(setCut(0, 1));
        noRepair(none);
        refused(none, moved(0, 1, 1).is(NONE), outside(0, 1, true).is(NONE), repairedStock(2, 1).is(NONE));
        noRepair(ORPHAN.then(setCut(0, 1)).ruled("0a>=1001"));
        run(none.then(removeRule(0)), repairCost().is(0), moved(0, 1, 0).is(0), repairedStock(1, 0).is(9));
        run(none.then(removeRule(0)).ruled("0b>=1000"), repairCost().is(100000), repairedStock(0, 1).is(1000));
    }

    // ---- promises 37 and 38

    private static void applyNotPossibleAndNone() {
        sentence("promise 37", "NOT_POSSIBLE if the cut is not consistent; NONE if there is no repair.");
        refused(ORPHAN, apply(false).is(NOT_POSSIBLE), apply(true).is(NOT_POSSIBLE));
        refused(ORPHAN.ruled("0b>=1001"), apply(false).is(NOT_POSSIBLE), apply(true).is(NOT_POSSIBLE));
        refused(ORPHAN.ruled("0b>=1001").then(setCut(0, 1)), apply(false).is(NONE), apply(true).is(NONE));
        run(ORPHAN, apply(false).is(NOT_POSSIBLE), count(7).is(0), restore().is(NONE), setCut(0, 1).is(0),
            apply(false).is(0), count(7).is(1));
        // A refused one leaves what an older one had put aside.
        Story older = ORPHAN.then(setCut(0, 1), apply(false), change(2, 1, 5)).ruled("0b>=1001");
        refused(older, apply(false).is(NONE));
        run(older, apply(true).is(NONE), count(7).is(1), restore().is(2), cut(0).is(1), cut(1).is(1));
    }

    private static void applyFrom0To100() {
        sentence("promise 37", "Returns the number of events that happened again");
        run(NEW, apply(false).is(0), apply(true).is(0), count(7).is(1));
        Story full = withEvents(NEW, 100);
        run(full, apply(false).is(100), apply(true).is(100), setCut(0, 100).is(0), apply(false).is(0),
            restore().is(100));
        run(full.then(setCut(0, 99)), apply(true).is(1), count(1).is(1));
        // The system begins anew; rules, costs and the text are none of it.
        run(BUSY, apply(false).is(2), count(4).is(3), setMoveCost(0, 1, 3).is(3), setOutsideCosts(7, 9).is(0),
            addRule().is(3), rule(3, 3).is(7));
    }

    private static void restoreNone() {
        sentence("promise 38", "Returns the number of events then; NONE if there is nothing to restore.");
        refused(NEW, restore().is(NONE));
        refused(Story.of(change(0, 0, 1), apply(false), restore()), restore().is(NONE));
        refused(Story.of(change(0, 0, 1), apply(false), reset(3)), restore().is(NONE));
        refused(Story.of(change(0, 0, 1)).ruled("0a>=1001").then(apply(false)), restore().is(NONE));
        run(NEW, apply(false).is(0), restore().is(0), restore().is(NONE));
        run(withEvents(NEW, 100).then(setCut(0, 100), apply(false)), count(1).is(0), restore().is(100),
            count(1).is(100), cut(0).is(100), change(0, 0, 1).is(FULL));
        run(Story.of(change(0, 0, 1), apply(false)), reset(6).is(BAD_VALUE), restore().is(1));
    }

    private static void restoreTheLatest() {
        sentence("promise 38", "Restores the system as it was before the latest apply() since reset() or restore().");
        Story twice = Story.of(change(0, 0, 1), change(0, 0, 2), setCut(0, 1), apply(false), change(1, 0, 3),
            change(1, 0, 4), apply(false));
        run(twice, count(1).is(3), restore().is(3), cut(0).is(0), event(0, 3).is(2), restore().is(NONE));
        run(twice, restore().is(3), apply(false).is(3), restore().is(3), restore().is(NONE));
        run(twice.then(setCut(0, 1), setCut(1, 2), apply(false)), count(1).is(0), restore().is(3), cut(1).is(2));
    }

    private static void restoreLeavesRulesCostsAndText() {
        sentence("promise 38", "Rules, costs and the text stay.");
        Story later = Story.of(change(0, 0, 1)).ruled("0a>=1").then(apply(false), removeRule(0)).ruled("1a>=0", "2a>=0")
            .then(setMoveCost(0, 1, 5), setOutsideCosts(6, 7), type('9'), restore());
        run(later, count(4).is(2), rule(0, 0).is(1), rule(1, 0).is(2), setMoveCost(0, 1, 1).is(5),
            setOutsideCosts(6, 7).is(0), addRule().is(2), rule(2, 3).is(9), clearText().is(6));
    }
}
