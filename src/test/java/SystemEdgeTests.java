/** The boundary cases of the section SYSTEM and of the promises 1 to 13, sentence by sentence. */
public final class SystemEdgeTests extends Edges {
    private static final Story NEW = Story.of();
    private static final Story BUSY = busy();

    private SystemEdgeTests() {
    }

    public static void main(String[] args) {
        upTo512Calls();
        twoToFiveProcesses();
        twoStocksFrom0To1000();
        aChannelFromEachToEachOther();
        at100Events();
        happensBefore();
        newObjectHasThreeProcesses();
        resetTakes2To5();
        resetMakesAllAsAtFirst();
        resetLeavesTheText();
        setStockTakes0To1000();
        setStockNotNow();
        setStockIsNoEvent();
        changeTakesMinus100To100();
        changeNotPossible();
        changeFull();
        sendTakes1To100();
        sendNotPossible();
        sendFullOfEvents();
        sendFullOfMessages();
        sendFullInEachChannel();
        sendFullWithMoreThanSix();
        receiveNone();
        receiveNotPossible();
        receiveFull();
        receiveMarker();
        stockUnknown();
        inChannelPlaces();
        inChannelWhat();
        inChannelOfOldMessages();
        eventNumbers();
        eventWhat();
        eventNone();
        clockUnknown();
        clockFromNoneTo100();
        orderUnknown();
        countWhat();
        countEdges();
        eventsOfUnknown();
        end();
    }

    private static void upTo512Calls() {
        sentence("The public face", "An object is used for at most 512 calls after it has been made");
        Story long510 = NEW.times(255, type('x'), clearText());
        run(long510, change(0, 0, 1).is(0), stock(0, 0).is(1));
        run(long510, apply(false).is(0), restore().is(0));
        run(withEvents(NEW, 100).times(205, apply(false).is(100), restore().is(100)), count(1).is(100),
            stock(0, 0).is(0));
        run(NEW.times(170, setStock(0, 0, 100), send(0, 1, 0, 100).is(0), reset(3)), setStock(0, 0, 7).is(0),
            send(0, 1, 0, 7).is(0));
    }

    // ---- SYSTEM

    private static void twoToFiveProcesses() {
        sentence("SYSTEM", "There are n processes, 2 to 5, numbered from 0.");
        for (int n = 2; n <= 5; n++) {
            Story fresh = Story.of(reset(n));
            run(fresh, count(0).is(n), stock(0, 0).is(0), stock(n - 1, 1).is(0));
            refused(fresh, stock(-1, 0).is(UNKNOWN), stock(n, 0).is(UNKNOWN), setStock(n, 0, 5).is(UNKNOWN),
                change(n, 0, 5).is(UNKNOWN), reset(1).is(BAD_VALUE), reset(6).is(BAD_VALUE));
        }
    }

    private static void twoStocksFrom0To1000() {
        sentence("SYSTEM", "Each has two stocks, a (number 0) and b (number 1), integers from 0 to 1000, 0 at first.");
        for (int s = 0; s < 2; s++) {
            for (int p = 0; p < 3; p++) {
                run(NEW, stock(p, s).is(0), setStock(p, s, 1000).is(0), stock(p, s).is(1000), stock(p, 1 - s).is(0),
                    setStock(p, s, 0).is(1000), stock(p, s).is(0));
                refused(NEW, setStock(p, s, -1).is(BAD_VALUE), setStock(p, s, 1001).is(BAD_VALUE));
            }
        }
        refused(NEW, stock(0, -1).is(UNKNOWN), stock(0, 2).is(UNKNOWN), setStock(0, -1, 5).is(UNKNOWN),
            setStock(0, 2, 5).is(UNKNOWN));
    }

    private static void aChannelFromEachToEachOther() {
        sentence("SYSTEM", "From each process to each other one there is a channel: ... empty at first.");
        for (int n = 2; n <= 5; n++) {
            Story fresh = Story.of(reset(n));
            for (int p = 0; p < n; p++) {
                for (int q = 0; q < n; q++) {
                    run(fresh, inChannel(p, q, 0, 0).is(p == q ? UNKNOWN : NONE),
                        receive(p, q).is(p == q ? UNKNOWN : NONE));
                }
            }
            Story rich = fresh.then(setStock(n - 1, 0, 9));
            run(rich, send(n - 1, 0, 0, 9).is(0), inChannel(n - 1, 0, 0, 1).is(9), inChannel(0, n - 1, 0, 1).is(NONE),
                count(2).is(1));
            refused(rich, send(n - 1, n - 1, 0, 9).is(UNKNOWN), send(n - 1, n, 0, 9).is(UNKNOWN));
        }
    }

    private static void at100Events() {
        sentence("SYSTEM", "The events are numbered from 0 ...; there are at most 100.");
        Story last = withEvents(Story.of(setStock(0, 0, 10)), 99);
        run(NEW, change(0, 0, 1).is(0), change(0, 0, 1).is(1));
        run(last, change(0, 0, 1).is(99), count(1).is(100), event(99, 3).is(1), change(0, 0, 1).is(FULL));
        run(last, send(0, 1, 0, 2).is(99), count(1).is(100), event(99, 1).is(1), send(0, 1, 0, 2).is(FULL));
        run(withEvents(Story.of(setStock(0, 0, 10), send(0, 1, 0, 2), send(0, 1, 0, 3)), 99), receive(1, 0).is(99),
            count(1).is(100), event(99, 1).is(2), receive(1, 0).is(FULL));
    }

    private static void happensBefore() {
        sentence("SYSTEM", "An event happens before another one if both are different and there is a sequence ...");
        // 0 and 1 at process 0, the message of 0 is received in 2 at process 1; 3 at process 2 stands alone.
        Story few = Story.of(setStock(0, 0, 10), send(0, 1, 0, 2), change(0, 0, 1), receive(1, 0), change(2, 0, 1));
        for (int e = 0; e < 4; e++) {
            run(few, order(e, e).is(0));
        }
        run(few, order(0, 1).is(1), order(1, 0).is(-1), order(0, 2).is(1), order(2, 0).is(-1), order(1, 2).is(0),
            order(2, 1).is(0), order(0, 3).is(0), order(3, 2).is(0));
        // A marker is no message, and a message of before the history has no send.
        run(Story.of(change(0, 0, 1), beginSnapshot(0), receive(1, 0), change(1, 0, 1)), order(0, 1).is(0));
        run(Story.of(setStock(0, 0, 10), send(0, 1, 0, 2), setCut(0, 1), apply(false), change(0, 0, 1), receive(1, 0)),
            order(0, 1).is(0), order(1, 0).is(0));
        // Of the longest sequence the first happens before the last.
        run(withEvents(NEW, 100), order(0, 99).is(1), order(99, 0).is(-1), order(98, 99).is(1), order(99, 99).is(0));
    }

    // ---- promise 1

    private static void newObjectHasThreeProcesses() {
        sentence("promise 1", "Creates a system of 3 processes.");
        run(NEW, count(0).is(3), stock(2, 1).is(0), stock(3, 1).is(UNKNOWN));
        same("it is as reset(3) leaves it", NEW, Story.of(reset(3)));
        refused(NEW, event(0, 0).is(UNKNOWN), rule(0, 0).is(UNKNOWN), removeRule(0).is(UNKNOWN), restore().is(NONE),
            abandonSnapshot().is(NOT_NOW), takeSnapshot().is(NOT_NOW), recorded(0).is(NONE), receive(0, 1).is(NONE),
            addRule().is(-100), setCut(0, 1).is(BAD_VALUE));
    }

    // ---- promise 2

    private static void resetTakes2To5() {
        sentence("promise 2", "processes: n, 2 to 5. Returns the previous n; BAD_VALUE.");
        run(NEW, reset(2).is(3), reset(5).is(2), reset(5).is(5), reset(3).is(5), count(0).is(3));
        for (int wrong : new int[] {1, 6, 0, -1, MIN, MAX}) {
            refused(BUSY, reset(wrong).is(BAD_VALUE));
        }
    }

    private static void resetMakesAllAsAtFirst() {
        sentence("promise 2",
            "everything becomes as at first, without rules, with the costs of the beginning, and ...");
        for (int n = 2; n <= 5; n++) {
            same("reset(" + n + ") behind many calls", Story.of(reset(n)).typing("2b>=7"), BUSY.then(reset(n)));
        }
        run(BUSY, count(7).is(1), reset(3).is(3), count(7).is(0), count(4).is(0), restore().is(NONE));
        run(BUSY.then(apply(false), reset(3)), restore().is(NONE), setMoveCost(0, 1, 1).is(1),
            setOutsideCosts(100, 100).is(0));
        Story events = withEvents(NEW, 100);
        run(events, change(0, 0, 1).is(FULL), reset(3).is(3), change(0, 0, 1).is(0));
    }

    private static void resetLeavesTheText() {
        sentence("promise 2", "The text stays.");
        run(NEW.typing("4a>=7").then(reset(4)), addRule().is(-100), reset(5).is(4), addRule().is(0), rule(0, 3).is(7));
        run(NEW.typing("*a<=1234567890123456"), reset(2).is(3), type('7').is(FULL), clearText().is(20),
            reset(2).is(2), clearText().is(0));
    }

    // ---- promise 3

    private static void setStockTakes0To1000() {
        sentence("promise 3", "value: 0 to 1000");
        run(NEW, setStock(2, 1, 1000).is(0), setStock(2, 1, 0).is(1000), setStock(2, 1, 1).is(0),
            setStock(2, 1, 999).is(1), stock(2, 1).is(999));
        Story rich = Story.of(setStock(0, 0, 500), setStock(2, 1, 1000));
        for (int wrong : new int[] {-1, 1001, MIN, MAX}) {
            refused(rich, setStock(0, 0, wrong).is(BAD_VALUE), setStock(2, 1, wrong).is(BAD_VALUE));
        }
        refused(rich, setStock(-1, 0, 5).is(UNKNOWN), setStock(3, 0, 5).is(UNKNOWN), setStock(0, -1, 5).is(UNKNOWN),
            setStock(0, 2, 5).is(UNKNOWN), setStock(3, 0, -1).is(UNKNOWN), setStock(0, 2, 1001).is(UNKNOWN));
    }

    private static void setStockNotNow() {
        sentence("promise 3", "NOT_NOW if there are events.");
        Story one = Story.of(setStock(0, 0, 50), change(2, 1, 1));
        refused(one, setStock(0, 0, 5).is(NOT_NOW), setStock(2, 1, 0).is(NOT_NOW), setStock(0, 0, 0).is(NOT_NOW),
            setStock(0, 0, 1000).is(NOT_NOW));
        refused(one, setStock(0, 0, -1).is(BAD_VALUE), setStock(0, 0, 1001).is(BAD_VALUE),
            setStock(3, 0, 5).is(UNKNOWN), setStock(0, 2, 5).is(UNKNOWN), setStock(3, 0, 1001).is(UNKNOWN));
        run(one.then(reset(3)), setStock(0, 0, 5).is(0));
        // Messages of before the history and markers are no events, and a replay may leave no event.
        Story none = Story.of(setStock(0, 0, 50), send(0, 1, 0, 9), setCut(0, 1), apply(false), beginSnapshot(2));
        run(none, setStock(0, 0, 1000).is(41), stockAtCut(0, 0).is(1000), count(2).is(1), restore().is(1),
            setStock(0, 0, 5).is(NOT_NOW), stock(0, 0).is(41));
        refused(Story.of(setStock(0, 0, 50), send(0, 1, 0, 9), apply(false)), setStock(0, 0, 5).is(NOT_NOW));
    }

    private static void setStockIsNoEvent() {
        sentence("promise 3", "This is not an event.");
        run(Story.of(setStock(0, 0, 50), setStock(0, 0, 60)), count(1).is(0), eventsOf(0).is(0),
            event(0, 0).is(UNKNOWN), setCut(0, 1).is(BAD_VALUE), stockAtCut(0, 0).is(60));
    }

    // ---- promise 4

    private static void changeTakesMinus100To100() {
        sentence("promise 4", "amount: -100 to 100, but not 0");
        Story rich = Story.of(setStock(0, 0, 500));
        run(rich, change(0, 0, -100).is(0), stock(0, 0).is(400), change(0, 0, 100).is(1), stock(0, 0).is(500),
            change(0, 0, -1).is(2), stock(0, 0).is(499), change(0, 0, 1).is(3), stock(0, 0).is(500),
            event(0, 3).is(-100));
        refused(rich, change(0, 0, -101).is(BAD_VALUE), change(0, 0, 101).is(BAD_VALUE), change(0, 0, 0).is(BAD_VALUE),
            change(0, 0, MIN).is(BAD_VALUE), change(0, 0, MAX).is(BAD_VALUE));
        refused(rich, change(-1, 0, 5).is(UNKNOWN), change(3, 0, 5).is(UNKNOWN), change(0, -1, 5).is(UNKNOWN),
            change(0, 2, 5).is(UNKNOWN), change(3, 0, 0).is(UNKNOWN), change(0, 2, 101).is(UNKNOWN));
    }

    private static void changeNotPossible() {
        sentence("promise 4", "NOT_POSSIBLE if the stock would be less than 0 or greater than 1000");
        for (int s = 0; s < 2; s++) {
            Story low = Story.of(setStock(1, s, 60));
            run(low, change(1, s, -60).is(0), stock(1, s).is(0), change(1, s, -1).is(NOT_POSSIBLE),
                change(1, s, 1).is(1));
            refused(low, change(1, s, -61).is(NOT_POSSIBLE), change(1, s, -100).is(NOT_POSSIBLE),
                change(1, s, -101).is(BAD_VALUE));
            Story high = Story.of(setStock(1, s, 940));
            run(high, change(1, s, 60).is(0), stock(1, s).is(1000), change(1, s, 1).is(NOT_POSSIBLE),
                change(1, s, -1).is(1));
            refused(high, change(1, s, 61).is(NOT_POSSIBLE), change(1, s, 100).is(NOT_POSSIBLE),
                change(1, s, 101).is(BAD_VALUE));
            refused(Story.of(setStock(1, s, 1000)), change(1, s, 1).is(NOT_POSSIBLE), change(1, s, 0).is(BAD_VALUE));
            refused(NEW, change(1, s, -1).is(NOT_POSSIBLE), change(1, s, 0).is(BAD_VALUE));
        }
    }

    private static void changeFull() {
        sentence("promise 4", "FULL if there are 100 events.");
        Story last = withEvents(Story.of(setStock(1, 1, 1000)), 99);
        run(last, change(2, 1, 3).is(99), stock(2, 1).is(3), change(2, 1, 3).is(FULL), stock(2, 1).is(3));
        Story full = withEvents(Story.of(setStock(1, 1, 1000)), 100);
        refused(full, change(2, 1, 3).is(FULL), change(1, 1, -100).is(FULL), change(1, 1, 1).is(NOT_POSSIBLE),
            change(2, 1, -1).is(NOT_POSSIBLE), change(1, 1, 101).is(BAD_VALUE), change(2, 1, 0).is(BAD_VALUE),
            change(3, 1, 0).is(UNKNOWN), change(1, 2, 1).is(UNKNOWN));
        run(full.then(apply(false)), count(1).is(100), change(2, 1, 3).is(FULL), restore().is(100),
            change(2, 1, 3).is(FULL));
    }

    // ---- promise 5

    private static void sendTakes1To100() {
        sentence("promise 5", "amount: 1 to 100");
        Story rich = Story.of(setStock(0, 0, 500));
        run(rich, send(0, 1, 0, 1).is(0), stock(0, 0).is(499), send(0, 1, 0, 100).is(1), stock(0, 0).is(399),
            inChannel(0, 1, 0, 1).is(1), inChannel(0, 1, 1, 1).is(100));
        for (int wrong : new int[] {0, -1, 101, MIN, MAX}) {
            refused(rich, send(0, 1, 0, wrong).is(BAD_VALUE), send(1, 0, 0, wrong).is(BAD_VALUE),
                send(0, 0, 0, wrong).is(UNKNOWN), send(0, 1, 2, wrong).is(UNKNOWN));
        }
        refused(rich, send(-1, 1, 0, 5).is(UNKNOWN), send(3, 1, 0, 5).is(UNKNOWN), send(0, -1, 0, 5).is(UNKNOWN),
            send(0, 3, 0, 5).is(UNKNOWN), send(0, 0, 0, 5).is(UNKNOWN), send(0, 1, -1, 5).is(UNKNOWN),
            send(0, 1, 2, 5).is(UNKNOWN));
    }

    private static void sendNotPossible() {
        sentence("promise 5", "NOT_POSSIBLE if the stock is less than the amount");
        for (int s = 0; s < 2; s++) {
            Story little = Story.of(setStock(1, s, 60), setStock(1, 1 - s, 100));
            run(little, send(1, 2, s, 60).is(0), stock(1, s).is(0), send(1, 2, s, 1).is(NOT_POSSIBLE));
            refused(little, send(1, 2, s, 61).is(NOT_POSSIBLE), send(1, 2, s, 100).is(NOT_POSSIBLE),
                send(1, 2, s, 101).is(BAD_VALUE));
            refused(NEW, send(1, 2, s, 1).is(NOT_POSSIBLE), send(1, 2, s, 0).is(BAD_VALUE),
                send(1, 1, s, 1).is(UNKNOWN));
        }
        // The stock of the receiver does not matter for a send.
        run(Story.of(setStock(0, 0, 5), setStock(1, 0, 1000)), send(0, 1, 0, 5).is(0));
    }

    private static void sendFullOfEvents() {
        sentence("promise 5", "FULL if there are 100 events");
        Story last = withEvents(Story.of(setStock(1, 0, 60)), 99);
        run(last, send(1, 2, 0, 60).is(99), inChannel(1, 2, 0, 2).is(99), send(1, 2, 0, 1).is(NOT_POSSIBLE));
        Story full = withEvents(Story.of(setStock(1, 0, 60)), 100);
        refused(full, send(1, 2, 0, 1).is(FULL), send(1, 2, 0, 60).is(FULL), send(1, 2, 0, 61).is(NOT_POSSIBLE),
            send(1, 2, 0, 101).is(BAD_VALUE), send(1, 2, 0, 0).is(BAD_VALUE), send(1, 3, 0, 0).is(UNKNOWN));
    }

    private static void sendFullOfMessages() {
        sentence("promise 5", "FULL if there are ... 6 or more messages in the channel (markers do not count).");
        Story five = Story.of(setStock(0, 0, 50)).times(5, send(0, 1, 0, 1));
        run(five, send(0, 1, 0, 45).is(5), count(2).is(6), send(0, 2, 0, 1).is(NOT_POSSIBLE));
        run(five.then(beginSnapshot(0)), send(0, 1, 0, 1).is(5), inChannel(0, 1, 5, 0).is(2),
            inChannel(0, 1, 6, 1).is(1), send(0, 1, 0, 1).is(FULL));
        Story six = five.then(send(0, 1, 0, 1));
        refused(six, send(0, 1, 0, 1).is(FULL), send(0, 1, 0, 44).is(FULL), send(0, 1, 0, 45).is(NOT_POSSIBLE),
            send(0, 1, 1, 1).is(NOT_POSSIBLE), send(0, 1, 0, 0).is(BAD_VALUE), send(0, 1, 2, 0).is(UNKNOWN));
        run(six, send(0, 2, 0, 1).is(6), send(0, 1, 0, 1).is(FULL), receive(1, 0).is(7), send(0, 1, 0, 1).is(8),
            send(0, 1, 0, 1).is(FULL), send(1, 0, 0, 1).is(9));
        Story sixAndMarker = five.then(beginSnapshot(0), send(0, 1, 0, 1));
        refused(sixAndMarker, send(0, 1, 0, 1).is(FULL));
        // A receive may come to 100 events and a full channel at once: both are FULL.
        Story both = withEvents(six, 100);
        refused(both, send(0, 1, 0, 1).is(FULL), send(0, 1, 0, 100).is(NOT_POSSIBLE), send(0, 1, 0, 101).is(BAD_VALUE));
    }

    private static void sendFullInEachChannel() {
        sentence("promise 5", "FULL if there are ... 6 or more messages in the channel");
        // Five in each of the 20 channels are 100 events; behind a replay that has none of them, a sixth fits in each.
        Story all = Story.of(reset(5));
        for (int p = 0; p < 5; p++) {
            all = all.then(setStock(p, 0, 24));
        }
        Story each = NEW;
        for (int channel = 0; channel < 20; channel++) {
            int from = channel / 4;
            each = each.then(send(from, (from + 1 + channel % 4) % 5, 0, 1));
        }
        for (int round = 0; round < 5; round++) {
            all = all.then(each.calls());
        }
        for (int p = 0; p < 5; p++) {
            all = all.then(setCut(p, 20).is(0));
        }
        all = all.then(count(2).is(100), count(1).is(100), apply(false).is(0), count(2).is(100)).then(each.calls());
        run(all, count(2).is(120), count(1).is(20), stock(4, 0).is(0), inChannel(4, 3, 5, 2).is(19));
        refused(all.then(change(4, 0, 1)), send(4, 0, 0, 1).is(FULL), send(4, 3, 0, 1).is(FULL),
            send(0, 1, 0, 1).is(NOT_POSSIBLE));
    }

    private static void sendFullWithMoreThanSix() {
        sentence("promise 5", "FULL if there are ... 6 or more messages in the channel");
        // Eight are in transit at the cut, as it has all sends and no receive; the rule keeps them where they are.
        Story eight = Story.of(setStock(0, 0, 50)).times(6, send(0, 1, 0, 1)).times(2, receive(1, 0), send(0, 1, 0, 1))
            .then(setCut(0, 8)).ruled("~a>=8").then(apply(true), removeRule(0));
        run(eight, count(2).is(8), count(1).is(0));
        refused(eight, send(0, 1, 0, 1).is(FULL));
        Story seven = eight.then(receive(1, 0));
        refused(seven, send(0, 1, 0, 1).is(FULL));
        Story six = seven.then(receive(1, 0));
        refused(six, send(0, 1, 0, 1).is(FULL));
        run(six, receive(1, 0).is(2), send(0, 1, 0, 1).is(3), send(0, 1, 0, 1).is(FULL));
    }

    // ---- promise 6

    private static void receiveNone() {
        sentence("promise 6", "UNKNOWN; NONE if the channel is empty");
        refused(NEW, receive(0, 1).is(NONE), receive(2, 1).is(NONE), receive(-1, 1).is(UNKNOWN),
            receive(3, 1).is(UNKNOWN), receive(1, -1).is(UNKNOWN), receive(1, 3).is(UNKNOWN),
            receive(1, 1).is(UNKNOWN));
        Story one = Story.of(setStock(0, 0, 5), send(0, 1, 0, 5));
        run(one, receive(1, 0).is(1), receive(1, 0).is(NONE));
        refused(one, receive(0, 1).is(NONE), receive(2, 0).is(NONE));
        refused(one.then(receive(1, 0)), receive(1, 0).is(NONE));
        refused(withEvents(NEW, 100), receive(1, 0).is(NONE));
        refused(Story.of(setStock(0, 0, 1000)), receive(0, 1).is(NONE));
    }

    private static void receiveNotPossible() {
        sentence("promise 6", "NOT_POSSIBLE if the stock would be greater than 1000");
        for (int s = 0; s < 2; s++) {
            Story rich = Story.of(setStock(0, s, 100), setStock(1, s, 940), setStock(1, 1 - s, 1000));
            run(rich.then(send(0, 1, s, 60)), receive(1, 0).is(1), stock(1, s).is(1000), count(2).is(0));
            Story tooMuch = rich.then(send(0, 1, s, 61), send(0, 1, s, 1));
            refused(tooMuch, receive(1, 0).is(NOT_POSSIBLE), receive(1, 2).is(NONE), receive(1, 1).is(UNKNOWN));
            // What is behind it has to wait, though it would fit; when there is room it comes.
            run(tooMuch, receive(1, 0).is(NOT_POSSIBLE), change(1, s, -1).is(2), receive(1, 0).is(3),
                receive(1, 0).is(NOT_POSSIBLE));
        }
    }

    private static void receiveFull() {
        sentence("promise 6", "FULL if there is a message at the front, and there are 100 events.");
        Story sent = Story.of(setStock(0, 0, 100), setStock(1, 0, 995), send(0, 1, 0, 5), send(0, 2, 0, 5),
            send(2, 1, 0, 5), send(0, 1, 1, 1));
        run(withEvents(sent, 99), receive(1, 0).is(99), stock(1, 0).is(1000), receive(2, 0).is(FULL));
        Story full = withEvents(sent, 100);
        refused(full, receive(1, 0).is(FULL), receive(2, 0).is(FULL), receive(2, 1).is(NONE),
            receive(3, 1).is(UNKNOWN));
        Story fullAndHigh = withEvents(Story.of(setStock(0, 0, 100), setStock(1, 0, 995), send(0, 1, 0, 6)), 100);
        refused(fullAndHigh, receive(1, 0).is(NOT_POSSIBLE));
    }

    private static void receiveMarker() {
        sentence("promise 6", "Takes the message or the marker at the front of a channel; ... or MARKER");
        Story full = withEvents(Story.of(setStock(0, 0, 100), setStock(1, 0, 1000)), 100);
        run(full.then(beginSnapshot(0)), receive(1, 0).is(MARKER), count(1).is(100), eventsOf(1).is(0),
            receive(1, 0).is(NONE));
        // A message ahead of the marker comes first, a message behind it after it.
        Story between = Story.of(setStock(0, 0, 100), send(0, 1, 0, 3), beginSnapshot(0), send(0, 1, 0, 4));
        run(between, receive(1, 0).is(2), stock(1, 0).is(3), receive(1, 0).is(MARKER), stock(1, 0).is(3),
            count(1).is(3), receive(1, 0).is(3), stock(1, 0).is(7), receive(1, 0).is(NONE));
        refused(between, receive(0, 1).is(NONE), receive(2, 1).is(NONE));
    }

    // ---- promise 7

    private static void stockUnknown() {
        sentence("promise 7", "Returns its present value; UNKNOWN.");
        Story all = Story.of(reset(5));
        for (int p = 0; p < 5; p++) {
            all = all.then(setStock(p, 0, 10 + p), setStock(p, 1, 1000 - p));
        }
        run(all, stock(0, 0).is(10), stock(0, 1).is(1000), stock(4, 0).is(14), stock(4, 1).is(996));
        for (int wrong : new int[] {-1, 5, MIN, MAX}) {
            refused(all, stock(wrong, 0).is(UNKNOWN), stock(wrong, 1).is(UNKNOWN));
        }
        for (int wrong : new int[] {-1, 2, MIN, MAX}) {
            refused(all, stock(0, wrong).is(UNKNOWN), stock(4, wrong).is(UNKNOWN), stock(5, wrong).is(UNKNOWN));
        }
    }

    // ---- promise 8

    /** In the channel: a message, a marker, a message. */
    private static Story threeInChannel() {
        return Story.of(setStock(0, 0, 50), setStock(0, 1, 50), send(0, 1, 1, 11), beginSnapshot(0), send(0, 1, 0, 12));
    }

    private static void inChannelPlaces() {
        sentence("promise 8", "k: place in the channel, 0 for the front, markers included; BAD_VALUE if k is negative");
        Story three = threeInChannel();
        run(three, inChannel(0, 1, 0, 1).is(11), inChannel(0, 1, 1, 0).is(2), inChannel(0, 1, 2, 1).is(12));
        refused(three, inChannel(0, 1, -1, 0).is(BAD_VALUE), inChannel(0, 1, MIN, 2).is(BAD_VALUE));
        sentence("promise 8", "NONE if there is not so much in the channel.");
        refused(three, inChannel(0, 1, 3, 0).is(NONE), inChannel(0, 1, 3, 2).is(NONE), inChannel(0, 1, MAX, 1).is(NONE),
            inChannel(1, 0, 0, 0).is(NONE));
        run(three, inChannel(0, 2, 0, 0).is(2), inChannel(0, 2, 1, 0).is(NONE));
        run(three.then(receive(1, 0)), inChannel(0, 1, 0, 0).is(2), inChannel(0, 1, 1, 1).is(12),
            inChannel(0, 1, 2, 0).is(NONE));
        run(three.then(receive(1, 0), receive(1, 0)), inChannel(0, 1, 0, 1).is(12), inChannel(0, 1, 1, 0).is(NONE));
        run(three.then(abandonSnapshot()), inChannel(0, 1, 1, 1).is(12), inChannel(0, 1, 2, 0).is(NONE),
            inChannel(0, 2, 0, 0).is(NONE));
        sentence("promise 8", "Returns the property; UNKNOWN; BAD_VALUE ...; NONE ...");
        for (int wrong : new int[] {-1, 3, MIN, MAX}) {
            refused(three, inChannel(wrong, 1, 0, 0).is(UNKNOWN), inChannel(0, wrong, 0, 0).is(UNKNOWN),
                inChannel(wrong, 1, -1, 3).is(UNKNOWN));
        }
        refused(three, inChannel(1, 1, 0, 0).is(UNKNOWN), inChannel(1, 1, -1, 0).is(UNKNOWN),
            inChannel(0, 1, 3, 3).is(BAD_VALUE), inChannel(1, 0, -1, 0).is(BAD_VALUE));
    }

    private static void inChannelWhat() {
        sentence("promise 8", "what: 0 for the stock (2 for a marker), 1 for the amount (0 for a marker), 2 for ...");
        Story three = threeInChannel();
        int[][] due = {{1, 11, 0}, {2, 0, NONE}, {0, 12, 1}};
        for (int k = 0; k < 3; k++) {
            for (int what = 0; what < 3; what++) {
                run(three, inChannel(0, 1, k, what).is(due[k][what]));
            }
            for (int wrong : new int[] {-1, 3, MIN, MAX}) {
                refused(three, inChannel(0, 1, k, wrong).is(BAD_VALUE));
            }
        }
        refused(three, inChannel(0, 1, 1, 2).is(NONE));
    }

    private static void inChannelOfOldMessages() {
        sentence("promise 8", "NONE for a marker or if the message was in the channel when the history began");
        Story old = Story.of(setStock(0, 0, 50), send(0, 1, 0, 5), setCut(0, 1), apply(false), send(0, 1, 0, 6));
        refused(old, inChannel(0, 1, 0, 2).is(NONE));
        run(old, inChannel(0, 1, 0, 1).is(5), inChannel(0, 1, 1, 2).is(0), inChannel(0, 1, 1, 1).is(6),
            restore().is(1), inChannel(0, 1, 0, 2).is(0));
    }

    // ---- promise 9

    private static void eventNumbers() {
        sentence("promise 9", "event: the event; UNKNOWN");
        refused(NEW, event(0, 0).is(UNKNOWN), event(-1, 0).is(UNKNOWN), event(0, 6).is(UNKNOWN));
        Story one = Story.of(change(2, 1, 5));
        run(one, event(0, 0).is(2), event(0, 2).is(1));
        for (int wrong : new int[] {-1, 1, MIN, MAX}) {
            refused(one, event(wrong, 0).is(UNKNOWN), event(wrong, -1).is(UNKNOWN));
        }
        Story full = withEvents(NEW, 100);
        run(full, event(0, 3).is(1), event(99, 3).is(-1), event(100, 3).is(UNKNOWN), event(MAX, 3).is(UNKNOWN));
        refused(one.then(reset(3)), event(0, 0).is(UNKNOWN));
    }

    private static void eventWhat() {
        sentence("promise 9",
            "what: 0 for its process, 1 for its kind, ... 5 for the number of the event in which ...");
        Story four = Story.of(setStock(2, 1, 100), change(2, 1, -100), change(2, 1, 100), send(2, 0, 1, 100),
            receive(0, 2));
        int[][] due = {{2, 0, 1, -100, NONE, NONE}, {2, 0, 1, 100, NONE, NONE}, {2, 1, 1, 100, 0, 3},
            {0, 2, 1, 100, 2, 2}};
        for (int e = 0; e < 4; e++) {
            for (int what = 0; what < 6; what++) {
                run(four, event(e, what).is(due[e][what]));
            }
            refused(four, event(e, -1).is(BAD_VALUE), event(e, 6).is(BAD_VALUE), event(e, MIN).is(BAD_VALUE),
                event(e, MAX).is(BAD_VALUE));
        }
        refused(four, event(4, 6).is(UNKNOWN), event(-1, -1).is(UNKNOWN));
    }

    private static void eventNone() {
        sentence("promise 9",
            "(NONE for a change, if the message has not been received, or if it was in the channel ...)");
        refused(Story.of(change(0, 0, 1)), event(0, 4).is(NONE), event(0, 5).is(NONE));
        Story sent = Story.of(setStock(0, 0, 50), send(0, 1, 0, 5), send(0, 1, 0, 6));
        refused(sent, event(0, 5).is(NONE), event(1, 5).is(NONE));
        run(sent, event(0, 4).is(1), receive(1, 0).is(2), event(0, 5).is(2), event(2, 5).is(0), event(1, 5).is(NONE));
        Story old = sent.then(setCut(0, 1), apply(false), receive(1, 0), receive(1, 0));
        refused(old, event(1, 5).is(NONE));
        run(old, event(0, 5).is(2), event(1, 4).is(0), event(2, 5).is(0));
    }

    // ---- promises 10 and 11

    private static void clockUnknown() {
        sentence("promise 10", "Returns how many ...; UNKNOWN.");
        Story one = Story.of(change(2, 1, 5));
        run(one, clock(0, 0).is(0), clock(0, 2).is(1));
        refused(NEW, clock(0, 0).is(UNKNOWN));
        for (int wrong : new int[] {-1, 1, MIN, MAX}) {
            refused(one, clock(wrong, 0).is(UNKNOWN), clock(wrong, 3).is(UNKNOWN));
        }
        for (int wrong : new int[] {-1, 3, MIN, MAX}) {
            refused(one, clock(0, wrong).is(UNKNOWN));
        }
    }

    private static void clockFromNoneTo100() {
        sentence("promise 10",
            "how many events of the process happen before the event, plus 1 if it is one of this process");
        Story full = withEvents(NEW, 100);
        run(full, clock(0, 0).is(1), clock(99, 0).is(100), clock(99, 1).is(0), clock(100, 0).is(UNKNOWN));
        // The receive knows all 98 events up to the send, but not the one behind it.
        Story told = withEvents(NEW, 97).then(send(0, 1, 0, 1), change(0, 0, 1), receive(1, 0));
        run(told, clock(97, 0).is(98), clock(98, 0).is(99), clock(99, 0).is(98), clock(99, 1).is(1),
            clock(97, 1).is(0));
        // With five processes: each tells the next one all that it knows.
        Story five = Story.of(reset(5), setStock(4, 0, 9), change(4, 1, 5), send(4, 3, 0, 9), receive(3, 4),
            send(3, 2, 0, 9),
            receive(2, 3), send(2, 1, 0, 9), receive(1, 2), send(1, 0, 0, 9), receive(0, 1), send(0, 4, 0, 9),
            receive(4, 0));
        int[] last = {2, 2, 2, 2, 3};
        int[] atProcess0 = {1, 2, 2, 2, 2};
        for (int p = 0; p < 5; p++) {
            run(five, clock(10, p).is(last[p]), clock(8, p).is(atProcess0[p]), clock(0, p).is(p == 4 ? 1 : 0));
        }
        refused(five, clock(10, 5).is(UNKNOWN), clock(11, 4).is(UNKNOWN));
        // Neither a marker nor a message of before the history tells of events.
        run(Story.of(change(0, 0, 1), beginSnapshot(0), receive(1, 0), change(1, 0, 1)), clock(1, 0).is(0));
        run(Story.of(change(0, 0, 5), send(0, 1, 0, 2), setCut(0, 2), apply(false), change(0, 0, 1), receive(1, 0)),
            clock(1, 0).is(0), clock(1, 1).is(1));
    }

    private static void orderUnknown() {
        sentence("promise 11", "Returns 1 if the one happens before the other, -1 ..., 0 otherwise; UNKNOWN.");
        refused(NEW, order(0, 0).is(UNKNOWN));
        Story two = Story.of(change(2, 1, 5), change(2, 1, 5));
        run(two, order(0, 0).is(0), order(0, 1).is(1), order(1, 0).is(-1), order(1, 1).is(0));
        for (int wrong : new int[] {-1, 2, MIN, MAX}) {
            refused(two, order(wrong, 0).is(UNKNOWN), order(0, wrong).is(UNKNOWN), order(wrong, wrong).is(UNKNOWN));
        }
        Story full = withEvents(NEW, 100);
        run(full, order(99, 0).is(-1), order(99, 100).is(UNKNOWN), order(100, 99).is(UNKNOWN));
    }

    // ---- promises 12 and 13

    private static void countWhat() {
        sentence("promise 12", "what: 0 for n, ... 7 for whether there is something to restore. BAD_VALUE.");
        int[] due = {3, 5, 3, 3, 3, 1, 3, 1};
        for (int what = 0; what < 8; what++) {
            run(BUSY, count(what).is(due[what]));
            run(NEW, count(what).is(what == 0 ? 3 : 0));
        }
        for (int wrong : new int[] {-1, 8, MIN, MAX}) {
            refused(BUSY, count(wrong).is(BAD_VALUE));
        }
    }

    private static void countEdges() {
        sentence("promise 12", "1 for the number of events, ... 6 for the number of events of the cut");
        Story full = withEvents(NEW, 100);
        run(full, count(1).is(100), setCut(0, 100).is(0), count(6).is(100));
        sentence("promise 12", "2 for the number of messages in all channels, 3 for that of markers");
        Story all = Story.of(reset(5));
        for (int p = 0; p < 5; p++) {
            all = all.then(setStock(p, 0, 100));
        }
        for (int p = 0; p < 5; p++) {
            for (int q = 0; q < 5; q++) {
                all = p == q ? all : all.then(send(p, q, 0, 1));
            }
        }
        run(all, count(2).is(20), count(3).is(0), beginSnapshot(0).is(4), count(2).is(20), count(3).is(4));
        sentence("promise 12", "4 for the number of rules");
        run(NEW.typing("0a>=1").times(12, addRule()), count(4).is(12), addRule().is(FULL), count(4).is(12));
        sentence("promise 12", "7 for whether there is something to restore (1, otherwise 0)");
        run(NEW, count(7).is(0), apply(false).is(0), count(7).is(1), restore().is(0), count(7).is(0));
    }

    private static void eventsOfUnknown() {
        sentence("promise 13", "Returns the number of events that it has had; UNKNOWN.");
        Story full = withEvents(NEW, 100);
        run(full, eventsOf(0).is(100), eventsOf(1).is(0), eventsOf(2).is(0));
        for (int wrong : new int[] {-1, 3, MIN, MAX}) {
            refused(BUSY, eventsOf(wrong).is(UNKNOWN));
        }
        run(BUSY, eventsOf(0).is(1), eventsOf(1).is(3), eventsOf(2).is(1));
    }
}
