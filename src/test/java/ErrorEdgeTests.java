import java.util.ArrayList;
import java.util.List;

/** The section ERRORS and the constants: over all calls, which error comes first, and that it changes nothing. */
public final class ErrorEdgeTests extends Edges {
    private static final Story BUSY = busy();

    private ErrorEdgeTests() {
    }

    public static void main(String[] args) {
        constants();
        noSuchProcess();
        bothTheSame();
        noSuchStock();
        noSuchEvent();
        noSuchRule();
        unknownBeforeBadValue();
        badValueBeforeTheOthers();
        questionsAboutTheRepair();
        noneChangesNothing();
        end();
    }

    private static void constants() {
        sentence("The constants", "UNKNOWN = -100001, BAD_VALUE = -100002, ... MARKER = 1000");
        Story story = Story.of();
        run(story, Call.of("UNKNOWN", x -> CutRepairer.UNKNOWN).is(-100001),
            Call.of("BAD_VALUE", x -> CutRepairer.BAD_VALUE).is(-100002),
            Call.of("NOT_NOW", x -> CutRepairer.NOT_NOW).is(-100003),
            Call.of("NOT_POSSIBLE", x -> CutRepairer.NOT_POSSIBLE).is(-100004),
            Call.of("FULL", x -> CutRepairer.FULL).is(-100005), Call.of("NONE", x -> CutRepairer.NONE).is(-100006),
            Call.of("MARKER", x -> CutRepairer.MARKER).is(1000));
    }

    /** Each call that names one process, for this one. */
    private static List<Call> withProcess(int p) {
        return List.of(setStock(p, 0, 1), change(p, 0, 1), stock(p, 0), clock(0, p), eventsOf(p), beginSnapshot(p),
            recorded(p), setCut(p, 0), cut(p), stockAtCut(p, 0), outside(p, 0, false), outside(p, 1, true),
            repairedStock(p, 0));
    }

    /** Each call that names two processes, for these. */
    private static List<Call> withPair(int p, int q) {
        return List.of(send(p, q, 0, 1), receive(p, q), inChannel(p, q, 0, 0), inTransit(p, q, -1, 0),
            setMoveCost(p, q, 5), moved(p, q, 0));
    }

    private static void allUnknown(Story story, List<Call> calls) {
        for (Call call : calls) {
            refused(story, call.is(UNKNOWN));
        }
    }

    private static void noSuchProcess() {
        sentence("The constants", "UNKNOWN: There is no such process, ...");
        for (int n = 2; n <= 5; n++) {
            Story story = Story.of(reset(n), setStock(0, 0, 50), setStock(n - 1, 0, 50), change(0, 0, 1));
            int[] wrong = {-1, n, 5, MIN, MAX};
            for (int p : wrong) {
                allUnknown(story, withProcess(p));
                allUnknown(story, withPair(p, 0));
                allUnknown(story, withPair(0, p));
                allUnknown(story, withPair(p, p));
            }
            int[] none = {NOT_NOW, 1, 50, 0, 0, n - 1, NONE, 0, 0, 50, 0, 0, 50};
            List<Call> last = withProcess(n - 1);
            for (int k = 0; k < none.length; k++) {
                run(story, last.get(k).is(none[k]));
            }
            run(story, send(n - 1, 0, 0, 1).is(1), receive(0, n - 1).is(2), receive(n - 1, 0).is(NONE),
                inChannel(0, n - 1, 0, 0).is(NONE), inTransit(n - 1, 0, -1, 0).is(0), setMoveCost(0, n - 1, 5).is(1),
                setMoveCost(n - 1, 0, 5).is(1), moved(n - 1, 0, 0).is(0), moved(0, n - 1, 0).is(0));
        }
    }

    private static void bothTheSame() {
        sentence("The constants", "UNKNOWN: ... or both processes are the same.");
        for (int p = 0; p < 3; p++) {
            allUnknown(BUSY, withPair(p, p));
        }
    }

    private static void noSuchStock() {
        sentence("The constants", "UNKNOWN: There is no such ... stock");
        for (int s : new int[] {-1, 2, MIN, MAX}) {
            allUnknown(BUSY, List.of(setStock(0, s, 1), change(0, s, 1), send(0, 1, s, 1), stock(0, s),
                stockAtCut(0, s), moved(0, 1, s), outside(0, s, false), outside(0, s, true), repairedStock(0, s)));
        }
    }

    private static void noSuchEvent() {
        sentence("The constants", "UNKNOWN: There is no such ... event");
        for (int e : new int[] {-1, 5, 100, MIN, MAX}) {
            allUnknown(BUSY, List.of(event(e, 0), clock(e, 0), order(e, 0), order(0, e), order(e, e)));
        }
        run(BUSY, event(4, 1).is(1), clock(4, 0).is(1), order(4, 4).is(0));
    }

    private static void noSuchRule() {
        sentence("The constants", "UNKNOWN: There is no such ... rule");
        for (int r : new int[] {-1, 3, 12, MIN, MAX}) {
            allUnknown(BUSY, List.of(removeRule(r), rule(r, 0)));
        }
    }

    private static void unknownBeforeBadValue() {
        sentence("ERRORS", "Where several errors can apply, the order of the @return line is the order of the checks.");
        allUnknown(BUSY, List.of(setStock(3, 0, -1), setStock(0, 2, 1001), change(3, 0, 0), change(0, 2, 101),
            send(0, 0, 0, 0), send(3, 0, 0, 101), send(0, 3, 0, 0), send(0, 1, 2, 0), inChannel(0, 0, -1, 0),
            inChannel(3, 0, 0, 3), inChannel(0, 3, -1, 3), event(5, 6), event(-1, -1), setCut(3, -1), setCut(-1, 101),
            inTransit(0, 0, -2, 0), inTransit(3, 0, 0, 2), inTransit(0, 3, -2, 2), rule(3, 4), rule(-1, -1),
            setMoveCost(0, 0, 0), setMoveCost(3, 0, 1001), setMoveCost(0, 3, 0)));
        // With a snapshot that runs, and with events: UNKNOWN before NOT_NOW.
        allUnknown(BUSY, List.of(beginSnapshot(3), beginSnapshot(-1), setStock(3, 0, 1), setStock(0, 2, 1)));
        // With empty channels and too small stocks: UNKNOWN before NONE and NOT_POSSIBLE.
        allUnknown(Story.of(), List.of(receive(0, 0), receive(0, 3), receive(3, 0), send(0, 0, 0, 5), send(0, 3, 0, 5),
            change(3, 0, -5), change(0, 2, -5), inChannel(0, 0, 0, 0), recorded(3), recorded(-1)));
    }

    private static void badValueBeforeTheOthers() {
        sentence("ERRORS", "Where several errors can apply, the order of the @return line is the order of the checks.");
        refused(BUSY, setStock(0, 0, -1).is(BAD_VALUE), setStock(0, 0, 1001).is(BAD_VALUE));
        Story full = withEvents(Story.of(setStock(0, 0, 50)).times(6, send(0, 1, 0, 1)), 100);
        refused(full, change(1, 0, -101).is(BAD_VALUE), change(1, 0, -1).is(NOT_POSSIBLE), change(1, 0, 1).is(FULL),
            send(0, 1, 1, 101).is(BAD_VALUE), send(0, 1, 1, 1).is(NOT_POSSIBLE), send(0, 1, 0, 1).is(FULL),
            receive(1, 0).is(FULL), receive(0, 1).is(NONE), setStock(0, 0, 50).is(NOT_NOW));
        Story orphan = Story.of(setStock(0, 0, 9), send(0, 1, 0, 9), receive(1, 0), setCut(1, 1));
        refused(orphan, inTransit(0, 1, -2, 0).is(BAD_VALUE), inTransit(0, 1, 0, 2).is(BAD_VALUE),
            inTransit(0, 1, 9, 0).is(NOT_POSSIBLE), inChannel(0, 1, -1, 0).is(BAD_VALUE),
            inChannel(0, 1, 0, 0).is(NONE));
    }

    private static void questionsAboutTheRepair() {
        sentence("ERRORS", "UNKNOWN; NOT_POSSIBLE if the cut is not consistent; NONE if there is no repair.");
        Story none = Story.of(setStock(0, 0, 9), send(0, 1, 0, 9), receive(1, 0)).ruled("0b>=1001");
        refused(none, repairCost().is(NONE), moved(0, 1, 0).is(NONE), moved(0, 1, 1).is(NONE),
            outside(0, 0, false).is(NONE),
            outside(2, 1, true).is(NONE), repairedStock(0, 0).is(NONE), repairedStock(2, 1).is(NONE),
            apply(false).is(NONE), apply(true).is(NONE));
        Story neither = none.then(setCut(1, 1));
        refused(neither, repairCost().is(NOT_POSSIBLE), moved(0, 1, 0).is(NOT_POSSIBLE),
            outside(0, 0, true).is(NOT_POSSIBLE),
            outside(2, 1, false).is(NOT_POSSIBLE), repairedStock(2, 0).is(NOT_POSSIBLE), apply(false).is(NOT_POSSIBLE),
            apply(true).is(NOT_POSSIBLE));
        for (Story story : List.of(none, neither)) {
            List<Call> unknown = new ArrayList<>(List.of(moved(1, 1, 0), moved(0, 1, 2), outside(0, -1, true),
                repairedStock(0, 2)));
            for (int p : new int[] {-1, 3}) {
                unknown.addAll(List.of(moved(p, 0, 0), moved(0, p, 0), outside(p, 0, true), repairedStock(p, 0)));
            }
            allUnknown(story, unknown);
        }
    }

    private static void noneChangesNothing() {
        sentence("ERRORS", "A call that returns an error or NONE changes nothing.");
        refused(BUSY, receive(0, 1).is(NONE), receive(0, 2).is(NONE), receive(1, 2).is(NONE),
            inChannel(0, 1, 2, 0).is(NONE),
            inChannel(0, 1, 1, 2).is(NONE), inChannel(0, 2, 0, 2).is(NONE), inChannel(2, 0, 0, 0).is(NONE),
            inTransit(0, 1, 1, 0).is(NONE), inTransit(2, 0, 0, 0).is(NONE), event(0, 4).is(NONE), event(0, 5).is(NONE),
            event(1, 5).is(NONE), event(3, 5).is(NONE), recorded(2).is(NONE));
        refused(BUSY.then(restore()), restore().is(NONE), receive(2, 1).is(NONE));
        sentence("ERRORS", "NONE is no error; it is returned only if no error applies.");
        refused(BUSY, receive(0, 0).is(UNKNOWN), inChannel(2, 0, 0, 3).is(BAD_VALUE),
            inTransit(2, 0, 0, 2).is(BAD_VALUE), event(0, 6).is(BAD_VALUE), recorded(3).is(UNKNOWN));
    }
}
