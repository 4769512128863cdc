/** Promises 14 to 24: snapshots and cuts. */
public final class SnapshotPromiseTests {
    private static final int UNKNOWN = -100001;
    private static final int BAD_VALUE = -100002;
    private static final int NOT_NOW = -100003;
    private static final int NOT_POSSIBLE = -100004;
    private static final int NONE = -100006;
    private static final int MARKER = 1000;
    private static final int MIN = Integer.MIN_VALUE;
    private static final int MAX = Integer.MAX_VALUE;

    private static final Due due = new Due();

    private SnapshotPromiseTests() {
    }

    public static void main(String[] args) {
        promise14BeginSnapshot();
        promise14BeginSnapshotAgain();
        promise15AbandonSnapshot();
        promise16Recorded();
        promise17TakeSnapshot();
        promise18SetCut();
        promise19Cut();
        promise20Orphans();
        promise20OrphansOfOldMessages();
        promise21LowerCut();
        promise22RaiseCut();
        promise22NoMessagesFromBeforeReset();
        promise23StockAtCut();
        promise23StockAtCutAfterApply();
        promise24InTransit();
        promise24InTransitAfterApply();
        promise24InTransitErrors();
        due.end();
    }

    private static void promise14BeginSnapshot() {
        for (int n = 2; n <= 5; n++) {
            CutRepairer x = Bench.of(n);
            due.is("14: markers of " + n, x.beginSnapshot(n - 1), n - 1);
            due.is("14: markers counted", x.count(3), n - 1);
            due.is("14: running", x.beginSnapshot(0), NOT_NOW);
            due.is("14: in the channel", x.inChannel(n - 1, 0, 0, 0), 2);
            due.is("14: not in another", x.inChannel(0, n - 1, 0, 0), NONE);
            due.is("14: the beginner has recorded", x.recorded(n - 1), 0);
            due.is("14: another has not", x.recorded(0), NONE);
        }
        CutRepairer x = new CutRepairer();
        for (int wrong : new int[] {-1, 3, MIN, MAX}) {
            due.is("14: process " + wrong, x.beginSnapshot(wrong), UNKNOWN);
        }
        due.is("14: no snapshot yet", x.count(5), 0);
        x.beginSnapshot(1);
        due.is("14: UNKNOWN before NOT_NOW", x.beginSnapshot(3), UNKNOWN);
    }

    private static void promise14BeginSnapshotAgain() {
        CutRepairer x = Bench.of(2);
        x.change(0, 0, 5);
        x.beginSnapshot(0);
        due.is("14: marker to 1", x.receive(1, 0), MARKER);
        due.is("14: still running", x.beginSnapshot(0), NOT_NOW);
        due.is("14: marker to 0", x.receive(0, 1), MARKER);
        due.is("14: complete", x.count(5), 2);
        x.change(1, 0, 5);
        due.is("14: another", x.beginSnapshot(1), 1);
        due.is("14: running again", x.count(5), 1);
        due.is("14: the old record is gone", x.recorded(0), NONE);
        due.is("14: the new record", x.recorded(1), 1);
    }

    private static void promise15AbandonSnapshot() {
        CutRepairer x = new CutRepairer();
        due.is("15: none", x.abandonSnapshot(), NOT_NOW);
        x.setStock(0, 0, 9);
        x.send(0, 1, 0, 1);
        x.beginSnapshot(0);
        x.send(0, 1, 0, 2);
        x.receive(2, 0);
        due.is("15: markers", x.count(3), 3);
        due.is("15: vanish", x.abandonSnapshot(), 3);
        due.is("15: no markers", x.count(3), 0);
        due.is("15: none was begun", x.count(5), 0);
        due.is("15: no record", x.recorded(0), NONE);
        due.is("15: no record of 2", x.recorded(2), NONE);
        due.is("15: again", x.abandonSnapshot(), NOT_NOW);
        due.is("15: the messages stay", x.count(2), 2);
        due.is("15: they close up", x.inChannel(0, 1, 1, 1), 2);
        due.is("15: begun anew", x.beginSnapshot(2), 2);

        CutRepairer y = Bench.of(2);
        y.beginSnapshot(0);
        y.receive(1, 0);
        y.receive(0, 1);
        due.is("15: complete", y.abandonSnapshot(), NOT_NOW);
        due.is("15: stays complete", y.count(5), 2);
    }

    private static void promise16Recorded() {
        CutRepairer x = new CutRepairer();
        due.is("16: none was begun", x.recorded(0), NONE);
        x.change(0, 0, 50);
        x.change(0, 0, 1);
        x.send(0, 1, 0, 3);
        x.beginSnapshot(0);
        x.change(0, 0, 1);
        due.is("16: at the beginning", x.recorded(0), 3);
        due.is("16: not yet", x.recorded(1), NONE);
        due.is("16: the message ahead", x.receive(1, 0), 4);
        due.is("16: the marker", x.receive(1, 0), MARKER);
        due.is("16: with the message", x.recorded(1), 1);
        due.is("16: its markers", x.count(3), 3);
        x.change(1, 0, 1);
        due.is("16: stays", x.recorded(1), 1);
        x.receive(0, 1);
        due.is("16: 0 records once", x.recorded(0), 3);
        due.is("16: no new markers", x.count(3), 2);
        due.is("16: 2 from 1", x.receive(2, 1), MARKER);
        due.is("16: 2 recorded", x.recorded(2), 0);
        for (int wrong : new int[] {-1, 3, MIN, MAX}) {
            due.is("16: process " + wrong, x.recorded(wrong), UNKNOWN);
        }
    }

    private static void promise17TakeSnapshot() {
        CutRepairer x = Bench.of(2);
        due.is("17: none", x.takeSnapshot(), NOT_NOW);
        x.setStock(0, 0, 50);
        x.change(0, 0, 1);
        x.send(0, 1, 0, 5);
        x.beginSnapshot(0);
        x.send(0, 1, 0, 6);
        due.is("17: running", x.takeSnapshot(), NOT_NOW);
        x.change(1, 1, 4);
        x.receive(1, 0);
        x.receive(1, 0);
        x.receive(1, 0);
        x.setCut(0, 3);
        due.is("17: a marker is left", x.takeSnapshot(), NOT_NOW);
        due.is("17: the cut stays", x.cut(0), 3);
        x.receive(0, 1);
        due.is("17: complete", x.takeSnapshot(), 4);
        due.is("17: cut of 0", x.cut(0), 2);
        due.is("17: cut of 1", x.cut(1), 2);
        due.is("17: no orphans", x.orphans(), 0);
        due.is("17: the snapshot stays", x.count(5), 2);
        x.setCut(0, 0);
        due.is("17: once more", x.takeSnapshot(), 4);
        due.is("17: the cut again", x.cut(0), 2);
    }

    private static void promise18SetCut() {
        CutRepairer x = new CutRepairer();
        x.change(1, 0, 5);
        x.change(1, 0, 5);
        due.is("18: to 2", x.setCut(1, 2), 0);
        due.is("18: to 1", x.setCut(1, 1), 2);
        due.is("18: to 0", x.setCut(1, 0), 1);
        due.is("18: to 0 again", x.setCut(1, 0), 0);
        for (int wrong : new int[] {-1, 3, MIN, MAX}) {
            due.is("18: events " + wrong, x.setCut(1, wrong), BAD_VALUE);
            due.is("18: process " + wrong, x.setCut(wrong, 0), UNKNOWN);
            due.is("18: UNKNOWN before BAD_VALUE", x.setCut(wrong, -1), UNKNOWN);
        }
        due.is("18: another has none", x.setCut(0, 1), BAD_VALUE);
        due.is("18: stays", x.cut(1), 0);
    }

    private static void promise19Cut() {
        CutRepairer x = new CutRepairer();
        x.change(1, 0, 5);
        x.change(2, 0, 5);
        x.change(2, 0, 5);
        due.is("19: at first", x.cut(2), 0);
        Bench.cutAt(x, 0, 1, 2);
        due.is("19: of 0", x.cut(0), 0);
        due.is("19: of 1", x.cut(1), 1);
        due.is("19: of 2", x.cut(2), 2);
        x.change(2, 0, 5);
        due.is("19: a new event is not in it", x.cut(2), 2);
        for (int wrong : new int[] {-1, 3, MIN, MAX}) {
            due.is("19: process " + wrong, x.cut(wrong), UNKNOWN);
        }
    }

    /** Process 0 sends 10 and 11 to 1, 1 receives both and sends 12 to 2, 2 receives it and sends 13 to 0. */
    private static CutRepairer round() {
        CutRepairer x = new CutRepairer();
        x.setStock(0, 0, 100);
        x.send(0, 1, 0, 10);
        x.send(0, 1, 0, 11);
        x.receive(1, 0);
        x.receive(1, 0);
        x.send(1, 2, 0, 12);
        x.receive(2, 1);
        x.change(2, 0, 5);
        x.send(2, 0, 0, 13);
        x.receive(0, 2);
        return x;
    }

    private static void promise20Orphans() {
        CutRepairer x = round();
        due.is("20: empty cut", x.orphans(), 0);
        Bench.cutAt(x, 0, 2, 0);
        due.is("20: both receives", x.orphans(), 2);
        x.setCut(0, 1);
        due.is("20: one send", x.orphans(), 1);
        x.setCut(0, 2);
        due.is("20: both sends", x.orphans(), 0);
        Bench.cutAt(x, 3, 0, 1);
        due.is("20: of two channels", x.orphans(), 2);
        Bench.cutAll(x);
        due.is("20: all", x.orphans(), 0);
        Bench.cutAt(x, 2, 0, 0);
        due.is("20: in transit is no orphan", x.orphans(), 0);
    }

    /** A message from before the history has no send among the events, so it is never an orphan. */
    private static void promise20OrphansOfOldMessages() {
        CutRepairer x = new CutRepairer();
        x.setStock(0, 0, 100);
        x.send(0, 1, 0, 10);
        Bench.cutAll(x);
        x.apply(false);
        due.is("20: receive", x.receive(1, 0), 0);
        Bench.cutAll(x);
        due.is("20: of before", x.orphans(), 0);
        due.is("20: consistent", x.broken(true), 0);
    }

    private static void promise21LowerCut() {
        CutRepairer x = round();
        due.is("21: consistent", x.lowerCut(), 0);
        Bench.cutAt(x, 1, 3, 3);
        due.is("21: a chain", x.lowerCut(), 5);
        due.is("21: cut of 0", x.cut(0), 1);
        due.is("21: cut of 1", x.cut(1), 1);
        due.is("21: cut of 2", x.cut(2), 0);
        due.is("21: no orphans", x.orphans(), 0);
        Bench.cutAt(x, 0, 3, 3);
        due.is("21: all out", x.lowerCut(), 6);
        due.is("21: none left", x.count(6), 0);
        Bench.cutAt(x, 3, 2, 3);
        due.is("21: the receive at 0 goes", x.lowerCut(), 4);
        due.is("21: cut of 0 then", x.cut(0), 2);
        due.is("21: cut of 1 stays", x.cut(1), 2);
        due.is("21: cut of 2 then", x.cut(2), 0);
        Bench.cutAll(x);
        due.is("21: the whole history", x.lowerCut(), 0);
    }

    private static void promise22RaiseCut() {
        CutRepairer x = round();
        due.is("22: consistent", x.raiseCut(), 0);
        due.is("22: stays empty", x.count(6), 0);
        Bench.cutAt(x, 0, 0, 1);
        due.is("22: a chain", x.raiseCut(), 5);
        due.is("22: cut of 0", x.cut(0), 2);
        due.is("22: cut of 1", x.cut(1), 3);
        due.is("22: cut of 2", x.cut(2), 1);
        due.is("22: no orphans", x.orphans(), 0);
        Bench.cutAt(x, 0, 1, 0);
        due.is("22: one send", x.raiseCut(), 1);
        due.is("22: cut of 0 with one", x.cut(0), 1);
        Bench.cutAt(x, 3, 0, 0);
        due.is("22: all", x.raiseCut(), 6);
        due.is("22: all in", x.count(6), 9);
        due.is("22: again", x.raiseCut(), 0);
    }

    /** Two messages, sent by the events 0 and 1 and received by 2 and 3; then a reset, and other events 0 to 3. */
    private static CutRepairer otherEventsAfterReset() {
        CutRepairer x = new CutRepairer();
        x.setStock(0, 0, 50);
        x.send(0, 1, 0, 10);
        x.send(0, 1, 0, 11);
        x.receive(1, 0);
        x.receive(1, 0);
        x.reset(3);
        x.setStock(0, 0, 50);
        x.send(0, 2, 0, 12);
        x.change(0, 0, 1);
        x.receive(2, 0);
        x.change(1, 0, 1);
        return x;
    }

    private static void promise22NoMessagesFromBeforeReset() {
        CutRepairer x = otherEventsAfterReset();
        Bench.cutAt(x, 0, 1, 1);
        due.is("20: one orphan", x.orphans(), 1);
        due.is("21: one event less", x.lowerCut(), 1);
        due.is("21: the change stays", x.cut(1), 1);
        Bench.cutAt(x, 0, 1, 1);
        due.is("22: one event more", x.raiseCut(), 1);
        due.is("22: the send alone", x.cut(0), 1);
        Bench.cutAt(x, 2, 0, 0);
        due.is("24: none on its way to 1", x.inTransit(0, 1, -1, 0), 0);
        due.is("24: so there is no first one", x.inTransit(0, 1, 0, 0), NONE);
        due.is("24: one on its way to 2", x.inTransit(0, 2, -1, 0), 1);
    }

    private static void promise23StockAtCut() {
        CutRepairer x = round();
        int[] of0 = {100, 90, 79, 92};
        int[] of1 = {0, 10, 21, 9};
        int[] of2 = {0, 12, 17, 4};
        for (int events = 0; events < 4; events++) {
            Bench.cutAt(x, events, events, events);
            due.is("23: of 0 at " + events, x.stockAtCut(0, 0), of0[events]);
            due.is("23: of 1 at " + events, x.stockAtCut(1, 0), of1[events]);
            due.is("23: of 2 at " + events, x.stockAtCut(2, 0), of2[events]);
            due.is("23: stock b", x.stockAtCut(2, 1), 0);
        }
        Bench.cutAt(x, 0, 2, 0);
        due.is("23: not consistent", x.stockAtCut(1, 0), 21);
        for (int wrong : new int[] {-1, 3, MIN, MAX}) {
            due.is("23: process " + wrong, x.stockAtCut(wrong, 0), UNKNOWN);
        }
        for (int wrong : new int[] {-1, 2, MIN, MAX}) {
            due.is("23: stock " + wrong, x.stockAtCut(0, wrong), UNKNOWN);
        }
        CutRepairer y = new CutRepairer();
        y.setStock(0, 0, 5);
        y.setStock(0, 1, 6);
        y.change(0, 1, 100);
        y.change(0, 0, -3);
        y.setCut(0, 1);
        due.is("23: a before its change", y.stockAtCut(0, 0), 5);
        due.is("23: b after its change", y.stockAtCut(0, 1), 106);
    }

    private static void promise23StockAtCutAfterApply() {
        CutRepairer x = round();
        Bench.cutAt(x, 1, 0, 0);
        due.is("23: apply", x.apply(false), 8);
        due.is("23: the stock of the cut", x.stockAtCut(0, 0), 90);
        Bench.cutAt(x, 1, 1, 0);
        due.is("23: with the next send", x.stockAtCut(0, 0), 79);
        due.is("23: with the old message", x.stockAtCut(1, 0), 10);
    }

    private static void promise24InTransit() {
        CutRepairer x = round();
        due.is("24: none yet", x.inTransit(0, 1, -1, 0), 0);
        due.is("24: nothing there", x.inTransit(0, 1, 0, 1), NONE);
        Bench.cutAt(x, 2, 0, 0);
        due.is("24: both", x.inTransit(0, 1, -1, 1), 2);
        due.is("24: the first", x.inTransit(0, 1, 0, 1), 10);
        due.is("24: the second", x.inTransit(0, 1, 1, 1), 11);
        due.is("24: its stock", x.inTransit(0, 1, 1, 0), 0);
        due.is("24: no third", x.inTransit(0, 1, 2, 0), NONE);
        due.is("24: far behind", x.inTransit(0, 1, MAX, 0), NONE);
        due.is("24: the other way", x.inTransit(1, 0, -1, 0), 0);
        Bench.cutAt(x, 2, 1, 0);
        due.is("24: one is taken", x.inTransit(0, 1, -1, 0), 1);
        due.is("24: the one left", x.inTransit(0, 1, 0, 1), 11);
        Bench.cutAll(x);
        due.is("24: all taken", x.inTransit(0, 1, -1, 0), 0);
        x.change(0, 1, 7);
        x.send(0, 2, 1, 7);
        due.is("24: the send is not in the cut", x.inTransit(0, 2, -1, 0), 0);
        Bench.cutAll(x);
        due.is("24: the send is in the cut", x.inTransit(0, 2, 0, 0), 1);
        due.is("24: its amount", x.inTransit(0, 2, 0, 1), 7);
        CutRepairer y = Bench.of(2);
        y.beginSnapshot(0);
        due.is("24: markers are no messages", y.inTransit(0, 1, -1, 0), 0);
    }

    private static void promise24InTransitAfterApply() {
        CutRepairer x = round();
        Bench.cutAt(x, 2, 0, 0);
        x.apply(false);
        due.is("24: from before, at the empty cut", x.inTransit(0, 1, -1, 0), 2);
        due.is("24: in their order", x.inTransit(0, 1, 1, 1), 11);
        x.setCut(1, 1);
        due.is("24: the first is taken", x.inTransit(0, 1, 0, 1), 11);
    }

    private static void promise24InTransitErrors() {
        CutRepairer x = round();
        for (int wrong : new int[] {-1, 3, MIN, MAX}) {
            due.is("24: from " + wrong, x.inTransit(wrong, 0, 0, 0), UNKNOWN);
            due.is("24: to " + wrong, x.inTransit(0, wrong, 0, 0), UNKNOWN);
        }
        due.is("24: itself", x.inTransit(1, 1, 0, 0), UNKNOWN);
        for (int wrong : new int[] {-2, MIN}) {
            due.is("24: k " + wrong, x.inTransit(0, 1, wrong, 0), BAD_VALUE);
        }
        for (int wrong : new int[] {-1, 2, MIN, MAX}) {
            due.is("24: what " + wrong, x.inTransit(0, 1, 0, wrong), BAD_VALUE);
            due.is("24: what with -1", x.inTransit(0, 1, -1, wrong), BAD_VALUE);
        }
        due.is("24: UNKNOWN before BAD_VALUE", x.inTransit(0, 0, -2, 2), UNKNOWN);
        Bench.cutAt(x, 0, 1, 0);
        due.is("24: not consistent", x.inTransit(1, 2, -1, 0), NOT_POSSIBLE);
        due.is("24: BAD_VALUE before NOT_POSSIBLE", x.inTransit(1, 2, -2, 0), BAD_VALUE);
        due.is("24: NOT_POSSIBLE before NONE", x.inTransit(1, 2, 9, 0), NOT_POSSIBLE);
    }
}
