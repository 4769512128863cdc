/** The boundary cases of the sections SNAPSHOTS and CUTS and of the promises 14 to 24, sentence by sentence. */
public final class SnapshotEdgeTests extends Edges {
    private static final Story NEW = Story.of();
    private static final Story BUSY = busy();
    /** Running, and all of two processes have recorded, but a marker is left. */
    private static final Story NEARLY = Story.of(reset(2), beginSnapshot(0), receive(1, 0));
    private static final Story COMPLETE = NEARLY.then(receive(0, 1));

    private SnapshotEdgeTests() {
    }

    public static void main(String[] args) {
        aProcessRecordsOnce();
        markersAtTheEnd();
        runningUntilTheLastMarker();
        cutFrom0ToAll();
        orphansAndConsistency();
        stockAfterTheEventsOfTheCut();
        inTransitAtTheCut();
        beginSnapshotUnknown();
        beginSnapshotNotNow();
        beginSnapshotCountsMarkers();
        abandonSnapshotNotNow();
        abandonSnapshotCountsMarkers();
        recordedNone();
        recordedFrom0To100();
        takeSnapshotNotNow();
        takeSnapshotFrom0To100();
        setCutTakes0ToAll();
        cutUnknown();
        orphansFromNoneToAll();
        lowerCutEdges();
        raiseCutEdges();
        stockAtCutEdges();
        inTransitPlaces();
        inTransitWhat();
        inTransitNotPossible();
        end();
    }

    // ---- SNAPSHOTS

    private static void aProcessRecordsOnce() {
        sentence("SNAPSHOTS", "If the process that takes it out has not recorded yet, it records.");
        Story begun = Story.of(change(0, 0, 1), beginSnapshot(0), change(0, 0, 1), change(1, 0, 1));
        run(begun, recorded(0).is(1), recorded(1).is(NONE), receive(1, 0).is(MARKER), recorded(1).is(1), count(3).is(3),
            change(1, 0, 1).is(3), receive(0, 1).is(MARKER), recorded(0).is(1), count(3).is(2),
            receive(2, 1).is(MARKER), recorded(2).is(0), count(3).is(3), receive(1, 2).is(MARKER), recorded(1).is(1),
            count(3).is(2));
        sentence("SNAPSHOTS", "The process that begins the snapshot records at once.");
        run(NEW, beginSnapshot(2).is(2), recorded(2).is(0), recorded(0).is(NONE), recorded(1).is(NONE));
    }

    private static void markersAtTheEnd() {
        sentence("SNAPSHOTS", "at the same time a marker is put at the end of each of its channels to others");
        Story six = Story.of(setStock(0, 0, 50)).times(6, send(0, 1, 0, 1)).then(beginSnapshot(0));
        run(six, inChannel(0, 1, 5, 0).is(0), inChannel(0, 1, 6, 0).is(2), inChannel(0, 1, 7, 0).is(NONE),
            inChannel(0, 2, 0, 0).is(2), inChannel(1, 0, 0, 0).is(NONE), inChannel(2, 0, 0, 0).is(NONE),
            inChannel(1, 2, 0, 0).is(NONE));
        sentence("SNAPSHOTS", "the marker is taken out instead of a message; this is not an event.");
        run(six.times(6, receive(1, 0)), count(1).is(12), receive(1, 0).is(MARKER), count(1).is(12), eventsOf(1).is(6),
            inChannel(0, 1, 0, 0).is(NONE));
    }

    private static void runningUntilTheLastMarker() {
        sentence("SNAPSHOTS", "running until all processes have recorded and no marker is in a channel");
        run(NEW, count(5).is(0));
        run(NEARLY, recorded(0).is(0), recorded(1).is(0), count(3).is(1), count(5).is(1), takeSnapshot().is(NOT_NOW));
        run(COMPLETE, count(3).is(0), count(5).is(2));
        // Of three processes the last marker may be one that makes nobody record.
        Story five = Story.of(beginSnapshot(0), receive(1, 0), receive(2, 0), receive(0, 1), receive(0, 2),
            receive(1, 2));
        run(five, count(3).is(1), recorded(2).is(0), count(5).is(1), receive(2, 1).is(MARKER), count(5).is(2));
        sentence("SNAPSHOTS", "then it is complete, and stays so until another one is begun.");
        run(COMPLETE, change(0, 0, 5).is(0), send(0, 1, 0, 5).is(1), receive(1, 0).is(2), count(5).is(2),
            recorded(0).is(0), takeSnapshot().is(0), count(5).is(2), setCut(0, 2).is(0), beginSnapshot(1).is(1),
            count(5).is(1), recorded(1).is(1), recorded(0).is(NONE));
    }

    // ---- CUTS

    private static void cutFrom0ToAll() {
        sentence("CUTS", "for each process a number of events, from 0 to the number that it has had; at first 0.");
        run(NEW, cut(0).is(0), cut(2).is(0), count(6).is(0), setCut(0, 0).is(0));
        refused(NEW, setCut(0, 1).is(BAD_VALUE), setCut(0, -1).is(BAD_VALUE));
        Story two = Story.of(change(1, 0, 1), change(1, 0, 1));
        run(two, cut(1).is(0), setCut(1, 2).is(0), change(1, 0, 1).is(2), cut(1).is(2), setCut(1, 3).is(2));
        refused(two, setCut(1, 3).is(BAD_VALUE), setCut(1, -1).is(BAD_VALUE), setCut(0, 1).is(BAD_VALUE));
    }

    /** Process 0 sends, 1 receives: the send is its second event, the receive the second of process 1. */
    private static Story sendAndReceive() {
        return Story.of(setStock(0, 0, 50), change(0, 0, 1), send(0, 1, 0, 7), change(0, 0, 1), change(1, 0, 1),
            receive(1, 0), change(1, 0, 1));
    }

    private static void orphansAndConsistency() {
        sentence("CUTS", "An orphan is a message whose receive is in the cut, but whose send is an event that is not.");
        Story story = sendAndReceive();
        for (int of0 = 0; of0 <= 3; of0++) {
            for (int of1 = 0; of1 <= 3; of1++) {
                boolean orphan = of0 < 2 && of1 >= 2;
                run(story.then(setCut(0, of0), setCut(1, of1)), orphans().is(orphan ? 1 : 0),
                    repairCost().is(orphan ? NOT_POSSIBLE : 0), broken(true).is(orphan ? NOT_POSSIBLE : 0),
                    inTransit(0, 1, -1, 0).is(orphan ? NOT_POSSIBLE : of0 >= 2 && of1 < 2 ? 1 : 0));
            }
        }
        // The send of an old message is no event: so its receive makes no orphan.
        Story old = Story.of(setStock(0, 0, 50), send(0, 1, 0, 7), setCut(0, 1), apply(false), receive(1, 0),
            setCut(1, 1));
        run(old, orphans().is(0), repairCost().is(0), lowerCut().is(0), raiseCut().is(0));
    }

    private static void stockAfterTheEventsOfTheCut() {
        sentence("CUTS", "The stock of a process at the cut is what it was after its events that are in the cut.");
        int[] of0 = {50, 51, 44, 45};
        int[] of1 = {0, 1, 8, 9};
        for (int events = 0; events <= 3; events++) {
            run(sendAndReceive().then(setCut(0, events), setCut(1, events)), stockAtCut(0, 0).is(of0[events]),
                stockAtCut(1, 0).is(of1[events]), stockAtCut(0, 1).is(0), stockAtCut(2, 0).is(0));
        }
    }

    private static void inTransitAtTheCut() {
        sentence("CUTS",
            "if it was in a channel when the history began or its send is in the cut, and its receive is not");
        Story old = Story.of(setStock(0, 0, 50), send(0, 1, 0, 7), setCut(0, 1), apply(false), send(0, 1, 0, 8));
        run(old, inTransit(0, 1, -1, 0).is(1), inTransit(0, 1, 0, 1).is(7), inTransit(0, 1, 1, 1).is(NONE),
            setCut(0, 1).is(0), inTransit(0, 1, -1, 0).is(2), inTransit(0, 1, 1, 1).is(8), receive(1, 0).is(1),
            inTransit(0, 1, -1, 0).is(2), setCut(1, 1).is(0), inTransit(0, 1, -1, 0).is(1),
            inTransit(0, 1, 0, 1).is(8));
        sentence("CUTS", "The messages in transit in a channel are in the order in which they were in the channel.");
        Story rows = Story.of(setStock(0, 0, 50), send(0, 1, 0, 1), send(0, 2, 0, 2), send(0, 1, 0, 3),
            send(0, 1, 0, 4), receive(1, 0), receive(1, 0), setCut(0, 4));
        run(rows, inTransit(0, 1, 0, 1).is(1), inTransit(0, 1, 1, 1).is(3), inTransit(0, 1, 2, 1).is(4),
            inTransit(0, 2, 0, 1).is(2), setCut(1, 1).is(0), inTransit(0, 1, 0, 1).is(3), inTransit(0, 1, 1, 1).is(4),
            inTransit(0, 1, 2, 1).is(NONE));
    }

    // ---- promises 14 and 15

    private static void beginSnapshotUnknown() {
        sentence("promise 14", "Returns the number of markers ...; UNKNOWN; NOT_NOW ...");
        for (int wrong : new int[] {-1, 3, MIN, MAX}) {
            refused(NEW, beginSnapshot(wrong).is(UNKNOWN));
            refused(BUSY, beginSnapshot(wrong).is(UNKNOWN));
        }
        refused(COMPLETE, beginSnapshot(2).is(UNKNOWN), beginSnapshot(-1).is(UNKNOWN));
    }

    private static void beginSnapshotNotNow() {
        sentence("promise 14", "NOT_NOW if a snapshot is running.");
        refused(Story.of(reset(2), beginSnapshot(0)), beginSnapshot(0).is(NOT_NOW), beginSnapshot(1).is(NOT_NOW));
        refused(NEARLY, beginSnapshot(0).is(NOT_NOW), beginSnapshot(1).is(NOT_NOW));
        refused(BUSY, beginSnapshot(2).is(NOT_NOW));
        run(NEW, beginSnapshot(0).is(2));
        run(COMPLETE, beginSnapshot(0).is(1));
        run(NEARLY, abandonSnapshot().is(1), beginSnapshot(0).is(1));
        run(NEARLY, apply(false).is(0), beginSnapshot(0).is(1), restore().is(0), beginSnapshot(0).is(NOT_NOW));
        run(NEARLY, reset(3).is(2), beginSnapshot(0).is(2));
    }

    private static void beginSnapshotCountsMarkers() {
        sentence("promise 14", "Returns the number of markers that are in channels then");
        for (int n = 2; n <= 5; n++) {
            run(Story.of(reset(n)), beginSnapshot(0).is(n - 1), count(3).is(n - 1));
            run(Story.of(reset(n)), beginSnapshot(n - 1).is(n - 1), count(3).is(n - 1), count(2).is(0));
        }
        run(withEvents(NEW, 100), beginSnapshot(0).is(2), recorded(0).is(100));
        run(Story.of(setStock(0, 0, 50)).times(6, send(0, 1, 0, 1)), beginSnapshot(0).is(2), count(2).is(6));
    }

    private static void abandonSnapshotNotNow() {
        sentence("promise 15", "NOT_NOW if no snapshot is running.");
        refused(NEW, abandonSnapshot().is(NOT_NOW));
        refused(COMPLETE, abandonSnapshot().is(NOT_NOW));
        refused(NEARLY.then(abandonSnapshot()), abandonSnapshot().is(NOT_NOW));
        refused(NEARLY.then(apply(false)), abandonSnapshot().is(NOT_NOW));
        refused(NEARLY.then(reset(2)), abandonSnapshot().is(NOT_NOW));
        run(NEARLY, abandonSnapshot().is(1));
    }

    private static void abandonSnapshotCountsMarkers() {
        sentence("promise 15", "Returns the number of markers that vanish");
        // All record by the first marker that comes: 4 markers are taken, and 16 are left.
        Story most = Story.of(reset(5), beginSnapshot(0), receive(1, 0), receive(2, 0), receive(3, 0), receive(4, 0));
        run(most, count(3).is(16), abandonSnapshot().is(16), count(3).is(0), count(5).is(0), beginSnapshot(3).is(4));
        sentence("promise 15", "all markers vanish, and it is as if none had been begun.");
        same("abandoned", Story.of(reset(2), setStock(0, 0, 9), send(0, 1, 0, 1)),
            Story.of(reset(2), setStock(0, 0, 9), beginSnapshot(1), send(0, 1, 0, 1), abandonSnapshot()));
        Story again = COMPLETE.then(beginSnapshot(1), abandonSnapshot());
        run(again, count(5).is(0), recorded(0).is(NONE), recorded(1).is(NONE), takeSnapshot().is(NOT_NOW));
        run(Story.of(setStock(0, 0, 9), send(0, 1, 0, 1), beginSnapshot(0), send(0, 1, 0, 2)), abandonSnapshot().is(2),
            inChannel(0, 1, 0, 1).is(1), inChannel(0, 1, 1, 1).is(2), receive(1, 0).is(2), receive(1, 0).is(3),
            recorded(1).is(NONE));
    }

    // ---- promises 16 and 17

    private static void recordedNone() {
        sentence("promise 16", "UNKNOWN; NONE if it has not recorded, or no snapshot was begun.");
        for (int wrong : new int[] {-1, 3, MIN, MAX}) {
            refused(NEW, recorded(wrong).is(UNKNOWN));
            refused(BUSY, recorded(wrong).is(UNKNOWN));
        }
        refused(NEW, recorded(0).is(NONE), recorded(2).is(NONE));
        Story begun = Story.of(beginSnapshot(1));
        refused(begun, recorded(0).is(NONE), recorded(2).is(NONE));
        run(begun, recorded(1).is(0), receive(0, 1).is(MARKER), recorded(0).is(0), recorded(2).is(NONE));
        run(NEARLY, abandonSnapshot().is(1), recorded(0).is(NONE), recorded(1).is(NONE));
        run(COMPLETE, recorded(1).is(0), apply(false).is(0), recorded(0).is(NONE), recorded(1).is(NONE),
            restore().is(0), recorded(0).is(0), recorded(1).is(0));
        run(COMPLETE, reset(2).is(2), recorded(0).is(NONE));
    }

    private static void recordedFrom0To100() {
        sentence("promise 16", "Returns the number of events that it recorded in the latest snapshot");
        run(withEvents(NEW, 100).then(beginSnapshot(1)), recorded(1).is(0), receive(0, 1).is(MARKER),
            recorded(0).is(100));
        run(COMPLETE.then(change(0, 0, 1)), recorded(0).is(0), beginSnapshot(0).is(1), recorded(0).is(1),
            recorded(1).is(NONE));
    }

    private static void takeSnapshotNotNow() {
        sentence("promise 17", "NOT_NOW if there is no complete snapshot.");
        refused(NEW, takeSnapshot().is(NOT_NOW));
        refused(Story.of(reset(2), beginSnapshot(0)), takeSnapshot().is(NOT_NOW));
        refused(Story.of(reset(2), change(0, 0, 1), setCut(0, 1), beginSnapshot(0), receive(1, 0)),
            takeSnapshot().is(NOT_NOW));
        refused(NEARLY.then(abandonSnapshot()), takeSnapshot().is(NOT_NOW));
        refused(COMPLETE.then(change(1, 0, 1), setCut(1, 1), beginSnapshot(1)), takeSnapshot().is(NOT_NOW));
        refused(COMPLETE.then(beginSnapshot(1), abandonSnapshot()), takeSnapshot().is(NOT_NOW));
        refused(COMPLETE.then(apply(false)), takeSnapshot().is(NOT_NOW));
        run(COMPLETE, takeSnapshot().is(0), takeSnapshot().is(0), apply(false).is(0), restore().is(0),
            takeSnapshot().is(0));
    }

    private static void takeSnapshotFrom0To100() {
        sentence("promise 17",
            "Makes the numbers that were recorded the cut. Returns the number of events of the cut then");
        Story full = withEvents(Story.of(reset(2)), 100).then(beginSnapshot(0), receive(1, 0), receive(0, 1));
        run(full, takeSnapshot().is(100), cut(0).is(100), cut(1).is(0));
        run(COMPLETE.then(change(0, 0, 1), change(1, 0, 1), setCut(0, 1), setCut(1, 1)), takeSnapshot().is(0),
            cut(0).is(0), cut(1).is(0));
    }

    // ---- promises 18 to 22

    private static void setCutTakes0ToAll() {
        sentence("promise 18", "events: 0 to the number of events that it has had");
        Story three = Story.of(change(1, 0, 1), change(2, 0, 1), change(1, 0, 1), change(1, 0, 1), setCut(1, 2));
        run(three, setCut(1, 0).is(2), setCut(1, 3).is(0), setCut(1, 3).is(3), cut(1).is(3), setCut(2, 1).is(0),
            setCut(0, 0).is(0));
        for (int wrong : new int[] {-1, 4, MIN, MAX}) {
            refused(three, setCut(1, wrong).is(BAD_VALUE));
        }
        refused(three, setCut(2, 2).is(BAD_VALUE), setCut(0, 1).is(BAD_VALUE));
        for (int wrong : new int[] {-1, 3, MIN, MAX}) {
            refused(three, setCut(wrong, 0).is(UNKNOWN), setCut(wrong, -1).is(UNKNOWN), setCut(wrong, 101).is(UNKNOWN));
        }
        Story full = withEvents(NEW, 100);
        run(full, setCut(0, 100).is(0), count(6).is(100), setCut(0, 101).is(BAD_VALUE), cut(0).is(100));
        refused(full, setCut(0, 101).is(BAD_VALUE), setCut(1, 1).is(BAD_VALUE));
        run(three.then(apply(false)), cut(1).is(0), setCut(1, 2).is(BAD_VALUE), setCut(1, 1).is(0));
    }

    private static void cutUnknown() {
        sentence("promise 19", "Returns its number of events in the cut; UNKNOWN.");
        for (int wrong : new int[] {-1, 3, MIN, MAX}) {
            refused(BUSY, cut(wrong).is(UNKNOWN));
        }
        run(BUSY, cut(0).is(1), cut(1).is(2), cut(2).is(0));
        run(withEvents(NEW, 100).then(setCut(0, 100)), cut(0).is(100));
    }

    /** 50 messages that are sent and received, one after the other. */
    private static Story fiftyMessages() {
        return Story.of(setStock(0, 0, 50)).times(50, send(0, 1, 0, 1), receive(1, 0));
    }

    private static void orphansFromNoneToAll() {
        sentence("promise 20", "Returns the number of orphans of the cut.");
        run(NEW, orphans().is(0));
        Story fifty = fiftyMessages();
        run(fifty, orphans().is(0), setCut(1, 50).is(0), orphans().is(50), setCut(0, 1).is(0), orphans().is(49),
            setCut(0, 49).is(1), orphans().is(1), setCut(0, 50).is(49), orphans().is(0), setCut(1, 0).is(50),
            orphans().is(0));
    }

    private static void lowerCutEdges() {
        sentence("promise 21", "Makes the cut the greatest consistent cut all of whose events are in it.");
        run(NEW, lowerCut().is(0));
        Story fifty = fiftyMessages();
        run(fifty, setCut(1, 50).is(0), lowerCut().is(50), cut(1).is(0), lowerCut().is(0));
        run(fifty, setCut(1, 50).is(0), setCut(0, 49).is(0), lowerCut().is(1), cut(1).is(49), cut(0).is(49));
        run(fifty, setCut(1, 50).is(0), setCut(0, 50).is(0), lowerCut().is(0), count(6).is(100));
        // Each receive is needed for the next send: the cut falls along the whole chain, and no further.
        Story chain = Story.of(setStock(0, 0, 9)).times(25, send(0, 1, 0, 9), receive(1, 0), send(1, 0, 0, 9),
            receive(0, 1));
        run(chain, setCut(0, 49).is(0), setCut(1, 50).is(0), lowerCut().is(0), cut(0).is(49), cut(1).is(50));
        run(chain, setCut(0, 48).is(0), setCut(1, 50).is(0), lowerCut().is(2), cut(0).is(48), cut(1).is(48));
        run(chain, setCut(0, 0).is(0), setCut(1, 50).is(0), lowerCut().is(50), count(6).is(0));
        run(chain, setCut(0, 50).is(0), setCut(1, 1).is(0), lowerCut().is(49), cut(0).is(1), cut(1).is(1));
        run(chain, setCut(0, 50).is(0), setCut(1, 0).is(0), lowerCut().is(49), cut(0).is(1), cut(1).is(0));
    }

    private static void raiseCutEdges() {
        sentence("promise 22", "Makes the cut the least consistent cut that has all of its events.");
        run(NEW, raiseCut().is(0));
        Story fifty = fiftyMessages();
        run(fifty, setCut(1, 50).is(0), raiseCut().is(50), cut(0).is(50), count(6).is(100), raiseCut().is(0));
        run(fifty, setCut(1, 1).is(0), raiseCut().is(1), cut(0).is(1), cut(1).is(1));
        run(fifty, setCut(0, 50).is(0), raiseCut().is(0), cut(1).is(0));
        Story chain = Story.of(setStock(0, 0, 9)).times(25, send(0, 1, 0, 9), receive(1, 0), send(1, 0, 0, 9),
            receive(0, 1));
        run(chain, setCut(0, 50).is(0), raiseCut().is(50), count(6).is(100));
        run(chain, setCut(1, 50).is(0), raiseCut().is(49), cut(0).is(49));
        run(chain, setCut(0, 1).is(0), raiseCut().is(0), setCut(0, 2).is(1), raiseCut().is(2), cut(0).is(2),
            cut(1).is(2));
    }

    // ---- promises 23 and 24

    private static void stockAtCutEdges() {
        sentence("promise 23", "Returns the stock of the process at the cut (consistent or not); UNKNOWN.");
        Story ends = Story.of(setStock(0, 0, 900), setStock(1, 1, 100), change(0, 0, 100), change(1, 1, -100));
        run(ends, stockAtCut(0, 0).is(900), stockAtCut(1, 1).is(100), setCut(0, 1).is(0), stockAtCut(0, 0).is(1000),
            stockAtCut(1, 1).is(100), setCut(1, 1).is(0), stockAtCut(1, 1).is(0), stockAtCut(0, 1).is(0));
        Story orphan = Story.of(setStock(0, 0, 9), send(0, 1, 0, 9), receive(1, 0), setCut(1, 1));
        run(orphan, orphans().is(1), stockAtCut(0, 0).is(9), stockAtCut(1, 0).is(9));
        for (int wrong : new int[] {-1, 3, MIN, MAX}) {
            refused(orphan, stockAtCut(wrong, 0).is(UNKNOWN));
        }
        for (int wrong : new int[] {-1, 2, MIN, MAX}) {
            refused(orphan, stockAtCut(0, wrong).is(UNKNOWN));
        }
        Story full = withEvents(Story.of(setStock(0, 0, 999)), 100);
        run(full, setCut(0, 100).is(0), stockAtCut(0, 0).is(999), setCut(0, 99).is(100), stockAtCut(0, 0).is(1000));
    }

    private static void inTransitPlaces() {
        sentence("promise 24", "k: its place ..., 0 for the one nearest to the front; or -1 for their number");
        Story two = Story.of(setStock(0, 0, 50), setStock(0, 1, 50), send(0, 1, 0, 7), send(0, 1, 1, 8), setCut(0, 2));
        run(two, inTransit(0, 1, -1, 0).is(2), inTransit(0, 1, -1, 1).is(2), inTransit(0, 1, 0, 1).is(7),
            inTransit(0, 1, 1, 1).is(8), inTransit(1, 0, -1, 0).is(0), inTransit(0, 2, -1, 0).is(0));
        sentence("promise 24", "BAD_VALUE if k is less than -1");
        refused(two, inTransit(0, 1, -2, 0).is(BAD_VALUE), inTransit(0, 1, MIN, 1).is(BAD_VALUE));
        sentence("promise 24", "NONE if there are not so many.");
        refused(two, inTransit(0, 1, 2, 0).is(NONE), inTransit(0, 1, MAX, 0).is(NONE), inTransit(1, 0, 0, 0).is(NONE));
        refused(NEW, inTransit(0, 1, 0, 0).is(NONE));
        Story fifty = fiftyMessages().then(setCut(0, 50));
        run(fifty, inTransit(0, 1, -1, 0).is(50), inTransit(0, 1, 49, 1).is(1), inTransit(0, 1, 50, 1).is(NONE),
            setCut(1, 50).is(0), inTransit(0, 1, -1, 0).is(0), inTransit(0, 1, 0, 1).is(NONE));
        // A marker has no place among the messages.
        run(Story.of(setStock(0, 0, 50), beginSnapshot(0), send(0, 1, 0, 7), setCut(0, 1)),
            inTransit(0, 1, -1, 0).is(1),
            inTransit(0, 1, 0, 1).is(7), inTransit(0, 1, 1, 1).is(NONE), inTransit(0, 2, -1, 0).is(0));
    }

    private static void inTransitWhat() {
        sentence("promise 24", "what: 0 for the stock, 1 for the amount (with -1 for k ..., but must be one of them)");
        Story one = Story.of(setStock(0, 1, 50), send(0, 1, 1, 7), setCut(0, 1));
        run(one, inTransit(0, 1, 0, 0).is(1), inTransit(0, 1, 0, 1).is(7));
        for (int wrong : new int[] {-1, 2, MIN, MAX}) {
            refused(one, inTransit(0, 1, 0, wrong).is(BAD_VALUE), inTransit(0, 1, -1, wrong).is(BAD_VALUE),
                inTransit(0, 1, 1, wrong).is(BAD_VALUE), inTransit(0, 0, 0, wrong).is(UNKNOWN));
        }
    }

    private static void inTransitNotPossible() {
        sentence("promise 24", "UNKNOWN; BAD_VALUE ...; NOT_POSSIBLE if the cut is not consistent; NONE ...");
        Story orphan = Story.of(setStock(0, 0, 9), send(0, 1, 0, 9), receive(1, 0), setCut(1, 1));
        refused(orphan, inTransit(0, 1, -1, 0).is(NOT_POSSIBLE), inTransit(0, 1, 0, 0).is(NOT_POSSIBLE),
            inTransit(2, 0, -1, 1).is(NOT_POSSIBLE), inTransit(0, 1, MAX, 1).is(NOT_POSSIBLE),
            inTransit(0, 1, -2, 0).is(BAD_VALUE), inTransit(0, 1, -1, 2).is(BAD_VALUE));
        for (int wrong : new int[] {-1, 3, MIN, MAX}) {
            refused(orphan, inTransit(wrong, 1, 0, 0).is(UNKNOWN), inTransit(1, wrong, 0, 0).is(UNKNOWN),
                inTransit(wrong, 1, -2, 2).is(UNKNOWN));
        }
        refused(orphan, inTransit(1, 1, 0, 0).is(UNKNOWN), inTransit(1, 1, -2, 0).is(UNKNOWN));
        run(orphan, setCut(0, 1).is(0), inTransit(0, 1, -1, 0).is(0), inTransit(0, 1, 0, 0).is(NONE));
    }
}
