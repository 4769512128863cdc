import java.util.function.Consumer;

/** Promises 1 to 13: the system, its events and what is told of them. */
public final class SystemPromiseTests {
    private static final int UNKNOWN = -100001;
    private static final int BAD_VALUE = -100002;
    private static final int NOT_NOW = -100003;
    private static final int NOT_POSSIBLE = -100004;
    private static final int FULL = -100005;
    private static final int NONE = -100006;
    private static final int MIN = Integer.MIN_VALUE;
    private static final int MAX = Integer.MAX_VALUE;

    private static final Due due = new Due();

    private SystemPromiseTests() {
    }

    public static void main(String[] args) {
        constants();
        promise01NewObject();
        promise02Reset();
        promise02ResetForgetsAllButTheText();
        promise03SetStock();
        promise04Change();
        promise04ChangeOrderOfErrors();
        promise05Send();
        promise05SendOrderOfErrors();
        promise06Receive();
        promise06ReceiveOrderOfErrors();
        promise07Stock();
        promise08InChannel();
        promise09Event();
        promise10Clock();
        promise11Order();
        promise12Count();
        promise13EventsOf();
        errorsChangeNothing();
        due.end();
    }

    private static void constants() {
        due.is("UNKNOWN", CutRepairer.UNKNOWN, UNKNOWN);
        due.is("BAD_VALUE", CutRepairer.BAD_VALUE, BAD_VALUE);
        due.is("NOT_NOW", CutRepairer.NOT_NOW, NOT_NOW);
        due.is("NOT_POSSIBLE", CutRepairer.NOT_POSSIBLE, NOT_POSSIBLE);
        due.is("FULL", CutRepairer.FULL, FULL);
        due.is("NONE", CutRepairer.NONE, NONE);
        due.is("MARKER", CutRepairer.MARKER, 1000);
    }

    private static void promise01NewObject() {
        CutRepairer x = new CutRepairer();
        due.is("1: count(0)", x.count(0), 3);
        for (int what = 1; what <= 7; what++) {
            due.is("1: count(" + what + ")", x.count(what), 0);
        }
        for (int p = 0; p < 3; p++) {
            due.is("1: stock a", x.stock(p, 0), 0);
            due.is("1: stock b", x.stock(p, 1), 0);
            due.is("1: eventsOf", x.eventsOf(p), 0);
            due.is("1: cut", x.cut(p), 0);
            due.is("1: recorded", x.recorded(p), NONE);
            for (int q = 0; q < 3; q++) {
                due.is("1: inChannel", x.inChannel(p, q, 0, 0), p == q ? UNKNOWN : NONE);
            }
        }
        due.is("1: stock(3, 0)", x.stock(3, 0), UNKNOWN);
        due.is("1: clearText()", x.clearText(), 0);
        due.is("1: setMoveCost", x.setMoveCost(2, 0, 1), 1);
        due.is("1: setOutsideCosts", x.setOutsideCosts(100, 100), 0);
        due.is("1: restore()", x.restore(), NONE);
        due.is("1: repairCost()", x.repairCost(), 0);
        CutRepairer other = new CutRepairer();
        x.setStock(0, 0, 9);
        due.is("1: another object's stock", other.stock(0, 0), 0);
    }

    private static void promise02Reset() {
        CutRepairer x = new CutRepairer();
        due.is("2: reset(2)", x.reset(2), 3);
        due.is("2: reset(5)", x.reset(5), 2);
        due.is("2: reset(4)", x.reset(4), 5);
        for (int wrong : new int[] {1, 6, 0, -1, MIN, MAX}) {
            due.is("2: reset(" + wrong + ")", x.reset(wrong), BAD_VALUE);
        }
        due.is("2: count(0)", x.count(0), 4);
        due.is("2: stock(3, 1)", x.stock(3, 1), 0);
        due.is("2: stock(4, 1)", x.stock(4, 1), UNKNOWN);
        due.is("2: reset(4) again", x.reset(4), 4);
    }

    private static void busy(CutRepairer x) {
        x.setStock(0, 0, 50);
        x.setStock(1, 1, 40);
        x.send(0, 1, 0, 20);
        x.send(1, 2, 1, 3);
        x.receive(1, 0);
        x.change(2, 0, 5);
        x.beginSnapshot(1);
        x.setCut(0, 1);
        x.setCut(2, 1);
        x.setMoveCost(0, 1, 7);
        x.setMoveCost(2, 1, 9);
        x.setOutsideCosts(30, 40);
        Bench.rule(x, "*a<=39");
        Bench.rule(x, "0b>=1");
    }

    private static void promise02ResetForgetsAllButTheText() {
        CutRepairer x = new CutRepairer();
        busy(x);
        x.apply(false);
        x.send(0, 1, 0, 1);
        x.beginSnapshot(2);
        due.is("2: count(7) before", x.count(7), 1);
        due.is("2: reset(3)", x.reset(3), 3);
        due.is("2: restore() behind it", x.restore(), NONE);
        due.is("2: costs move", x.setMoveCost(0, 1, 1), 1);
        due.is("2: costs outside", x.setOutsideCosts(100, 100), 0);
        due.is("2: text", x.clearText(), 5);
        CutRepairer fresh = new CutRepairer();
        same("2: all as at first", x, fresh);
        CutRepairer y = new CutRepairer();
        Bench.type(y, "*b=12");
        y.reset(2);
        due.is("2: the text stays", y.addRule(), 0);
        due.is("2: its number", y.rule(0, 3), 12);
    }

    private static void promise03SetStock() {
        CutRepairer x = new CutRepairer();
        due.is("3: first", x.setStock(2, 1, 1000), 0);
        due.is("3: again", x.setStock(2, 1, 0), 1000);
        due.is("3: once more", x.setStock(2, 1, 7), 0);
        due.is("3: stock", x.stock(2, 1), 7);
        due.is("3: the other stock", x.stock(2, 0), 0);
        due.is("3: another process", x.stock(1, 1), 0);
        due.is("3: not an event", x.count(1), 0);
        due.is("3: at the cut", x.stockAtCut(2, 1), 7);
        for (int wrong : new int[] {-1, 1001, MIN, MAX}) {
            due.is("3: value " + wrong, x.setStock(0, 0, wrong), BAD_VALUE);
        }
        for (int wrong : new int[] {-1, 3, MIN, MAX}) {
            due.is("3: process " + wrong, x.setStock(wrong, 0, 5), UNKNOWN);
        }
        for (int wrong : new int[] {-1, 2, MIN, MAX}) {
            due.is("3: stock " + wrong, x.setStock(0, wrong, 5), UNKNOWN);
        }
        due.is("3: UNKNOWN before BAD_VALUE", x.setStock(3, 0, -1), UNKNOWN);
        x.change(0, 0, 1);
        due.is("3: with an event", x.setStock(0, 0, 5), NOT_NOW);
        due.is("3: BAD_VALUE before NOT_NOW", x.setStock(0, 0, 1001), BAD_VALUE);
        due.is("3: UNKNOWN before NOT_NOW", x.setStock(0, 2, 5), UNKNOWN);
        due.is("3: stock stays", x.stock(0, 0), 1);
        CutRepairer y = new CutRepairer();
        y.beginSnapshot(0);
        y.receive(1, 0);
        due.is("3: markers are no events", y.setStock(0, 0, 5), 0);
    }

    private static void promise04Change() {
        CutRepairer x = new CutRepairer();
        due.is("4: 100", x.change(1, 0, 100), 0);
        due.is("4: -100", x.change(1, 0, -100), 1);
        due.is("4: stock", x.stock(1, 0), 0);
        due.is("4: below 0", x.change(1, 0, -1), NOT_POSSIBLE);
        due.is("4: 1", x.change(1, 1, 1), 2);
        due.is("4: stock b", x.stock(1, 1), 1);
        due.is("4: stock a", x.stock(1, 0), 0);
        for (int wrong : new int[] {0, 101, -101, MIN, MAX}) {
            due.is("4: amount " + wrong, x.change(0, 0, wrong), BAD_VALUE);
        }
        for (int wrong : new int[] {-1, 3, MIN, MAX}) {
            due.is("4: process " + wrong, x.change(wrong, 0, 1), UNKNOWN);
        }
        for (int wrong : new int[] {-1, 2, MIN, MAX}) {
            due.is("4: stock " + wrong, x.change(0, wrong, 1), UNKNOWN);
        }
        CutRepairer y = new CutRepairer();
        y.setStock(0, 0, 950);
        due.is("4: to 1001", y.change(0, 0, 51), NOT_POSSIBLE);
        due.is("4: to 1000", y.change(0, 0, 50), 0);
        due.is("4: stock 1000", y.stock(0, 0), 1000);
    }

    private static void promise04ChangeOrderOfErrors() {
        CutRepairer x = new CutRepairer();
        x.setStock(1, 0, 1000);
        Bench.fillUpTo(x, 99);
        due.is("4: event 99", x.change(0, 1, 3), 99);
        due.is("4: event 100", x.change(0, 1, 3), FULL);
        due.is("4: NOT_POSSIBLE before FULL", x.change(1, 0, 1), NOT_POSSIBLE);
        due.is("4: BAD_VALUE before FULL", x.change(0, 1, 0), BAD_VALUE);
        due.is("4: UNKNOWN before BAD_VALUE", x.change(0, 2, 0), UNKNOWN);
        due.is("4: count", x.count(1), 100);
        due.is("4: stock", x.stock(0, 1), 3);
    }

    private static void promise05Send() {
        CutRepairer x = new CutRepairer();
        x.setStock(0, 0, 150);
        x.setStock(0, 1, 9);
        due.is("5: 100", x.send(0, 1, 0, 100), 0);
        due.is("5: stock", x.stock(0, 0), 50);
        due.is("5: not yet there", x.stock(1, 0), 0);
        due.is("5: more than the stock", x.send(0, 1, 0, 51), NOT_POSSIBLE);
        due.is("5: all of the stock", x.send(0, 2, 0, 50), 1);
        due.is("5: nothing left", x.send(0, 2, 0, 1), NOT_POSSIBLE);
        due.is("5: of stock b", x.send(0, 1, 1, 9), 2);
        due.is("5: messages", x.count(2), 3);
        due.is("5: second in the channel", x.inChannel(0, 1, 1, 1), 9);
        for (int wrong : new int[] {0, -1, 101, MIN, MAX}) {
            due.is("5: amount " + wrong, x.send(0, 1, 0, wrong), BAD_VALUE);
        }
        for (int wrong : new int[] {-1, 3, MIN, MAX}) {
            due.is("5: from " + wrong, x.send(wrong, 1, 0, 1), UNKNOWN);
            due.is("5: to " + wrong, x.send(0, wrong, 0, 1), UNKNOWN);
        }
        for (int wrong : new int[] {-1, 2, MIN, MAX}) {
            due.is("5: stock " + wrong, x.send(0, 1, wrong, 1), UNKNOWN);
        }
        due.is("5: to itself", x.send(1, 1, 0, 1), UNKNOWN);
    }

    private static void promise05SendOrderOfErrors() {
        CutRepairer x = new CutRepairer();
        x.setStock(0, 0, 10);
        for (int k = 0; k < 6; k++) {
            due.is("5: message " + k, x.send(0, 1, 0, 1), k);
        }
        due.is("5: the seventh", x.send(0, 1, 0, 1), FULL);
        due.is("5: NOT_POSSIBLE before FULL", x.send(0, 1, 0, 5), NOT_POSSIBLE);
        due.is("5: BAD_VALUE before FULL", x.send(0, 1, 0, 101), BAD_VALUE);
        due.is("5: UNKNOWN before BAD_VALUE", x.send(0, 0, 0, 0), UNKNOWN);
        due.is("5: another channel", x.send(0, 2, 0, 1), 6);
        due.is("5: it takes one", x.receive(1, 0), 7);
        due.is("5: there is room again", x.send(0, 1, 0, 1), 8);
        due.is("5: full again", x.send(0, 1, 0, 1), FULL);

        CutRepairer y = new CutRepairer();
        y.setStock(0, 0, 10);
        for (int k = 0; k < 5; k++) {
            y.send(0, 1, 0, 1);
        }
        y.beginSnapshot(0);
        due.is("5: markers do not count", y.send(0, 1, 0, 1), 5);
        due.is("5: full with a marker", y.send(0, 1, 0, 1), FULL);

        CutRepairer z = new CutRepairer();
        z.setStock(1, 0, 4);
        Bench.fillUpTo(z, 100);
        due.is("5: 100 events", z.send(1, 0, 0, 4), FULL);
        due.is("5: 100 events, too much", z.send(1, 0, 0, 5), NOT_POSSIBLE);
        due.is("5: nothing was sent", z.count(2), 0);
    }

    private static void promise06Receive() {
        CutRepairer x = new CutRepairer();
        x.setStock(0, 0, 30);
        x.setStock(0, 1, 30);
        due.is("6: empty", x.receive(1, 0), NONE);
        x.send(0, 1, 0, 4);
        x.send(0, 1, 1, 6);
        x.beginSnapshot(0);
        x.send(0, 1, 0, 8);
        due.is("6: first", x.receive(1, 0), 3);
        due.is("6: stock a", x.stock(1, 0), 4);
        due.is("6: stock b not yet", x.stock(1, 1), 0);
        due.is("6: the other way", x.receive(0, 1), NONE);
        due.is("6: second", x.receive(1, 0), 4);
        due.is("6: stock b", x.stock(1, 1), 6);
        due.is("6: the marker", x.receive(1, 0), 1000);
        due.is("6: the marker is no event", x.count(1), 5);
        due.is("6: third", x.receive(1, 0), 5);
        due.is("6: stock a then", x.stock(1, 0), 12);
        due.is("6: a marker back", x.receive(0, 1), 1000);
        due.is("6: empty again", x.receive(1, 0), NONE);
        for (int wrong : new int[] {-1, 3, MIN, MAX}) {
            due.is("6: process " + wrong, x.receive(wrong, 0), UNKNOWN);
            due.is("6: from " + wrong, x.receive(0, wrong), UNKNOWN);
        }
        due.is("6: from itself", x.receive(2, 2), UNKNOWN);
    }

    private static void promise06ReceiveOrderOfErrors() {
        CutRepairer x = new CutRepairer();
        x.setStock(0, 0, 10);
        x.setStock(1, 0, 998);
        x.send(0, 1, 0, 2);
        x.send(0, 1, 0, 1);
        due.is("6: to 1000", x.receive(1, 0), 2);
        due.is("6: to 1001", x.receive(1, 0), NOT_POSSIBLE);
        due.is("6: it stays", x.inChannel(0, 1, 0, 1), 1);
        x.send(0, 2, 0, 1);
        x.beginSnapshot(1);
        Bench.fillUpTo(x, 100);
        due.is("6: NOT_POSSIBLE before FULL", x.receive(1, 0), NOT_POSSIBLE);
        due.is("6: FULL", x.receive(2, 0), FULL);
        due.is("6: still there", x.count(2), 2);
        due.is("6: a marker with 100 events", x.receive(0, 1), 1000);
        due.is("6: empty with 100 events", x.receive(0, 1), NONE);
        due.is("6: a marker behind a message", x.receive(2, 0), FULL);
    }

    private static void promise07Stock() {
        CutRepairer x = Bench.of(5);
        for (int p = 0; p < 5; p++) {
            x.setStock(p, 0, 10 + p);
            x.setStock(p, 1, 20 + p);
        }
        for (int p = 0; p < 5; p++) {
            due.is("7: a", x.stock(p, 0), 10 + p);
            due.is("7: b", x.stock(p, 1), 20 + p);
        }
        x.change(3, 1, -4);
        x.send(4, 3, 1, 5);
        x.receive(3, 4);
        due.is("7: present", x.stock(3, 1), 24);
        due.is("7: sender", x.stock(4, 1), 19);
        for (int wrong : new int[] {-1, 5, MIN, MAX}) {
            due.is("7: process " + wrong, x.stock(wrong, 0), UNKNOWN);
        }
        for (int wrong : new int[] {-1, 2, MIN, MAX}) {
            due.is("7: stock " + wrong, x.stock(0, wrong), UNKNOWN);
        }
    }

    private static void promise08InChannel() {
        CutRepairer x = new CutRepairer();
        x.setStock(0, 0, 50);
        x.setStock(0, 1, 50);
        x.send(0, 2, 0, 9);
        x.send(0, 1, 1, 11);
        x.beginSnapshot(0);
        x.send(0, 1, 0, 12);
        int[][] channel = {{1, 11, 1}, {2, 0, NONE}, {0, 12, 2}};
        for (int k = 0; k < 3; k++) {
            for (int what = 0; what < 3; what++) {
                due.is("8: place " + k + " what " + what, x.inChannel(0, 1, k, what), channel[k][what]);
            }
        }
        due.is("8: behind the end", x.inChannel(0, 1, 3, 0), NONE);
        due.is("8: far behind the end", x.inChannel(0, 1, MAX, 2), NONE);
        due.is("8: the other way", x.inChannel(1, 0, 0, 0), NONE);
        due.is("8: k -1", x.inChannel(0, 1, -1, 0), BAD_VALUE);
        due.is("8: k least", x.inChannel(0, 1, MIN, 0), BAD_VALUE);
        for (int wrong : new int[] {-1, 3, MIN, MAX}) {
            due.is("8: what " + wrong, x.inChannel(0, 1, 0, wrong), BAD_VALUE);
            due.is("8: what behind the end", x.inChannel(0, 1, 9, wrong), BAD_VALUE);
            due.is("8: from " + wrong, x.inChannel(wrong, 1, 0, 0), UNKNOWN);
            due.is("8: to " + wrong, x.inChannel(0, wrong, 0, 0), UNKNOWN);
        }
        due.is("8: itself", x.inChannel(1, 1, 0, 0), UNKNOWN);
        due.is("8: UNKNOWN before BAD_VALUE", x.inChannel(1, 1, -1, 5), UNKNOWN);
        x.receive(1, 0);
        due.is("8: the marker at the front", x.inChannel(0, 1, 0, 0), 2);
        x.receive(1, 0);
        due.is("8: the message at the front", x.inChannel(0, 1, 0, 1), 12);
        due.is("8: its send", x.inChannel(0, 1, 0, 2), 2);

        CutRepairer y = new CutRepairer();
        y.setStock(0, 0, 50);
        y.send(0, 1, 0, 5);
        Bench.cutAll(y);
        y.apply(false);
        y.send(0, 1, 0, 6);
        due.is("8: from before the history", y.inChannel(0, 1, 0, 2), NONE);
        due.is("8: its amount", y.inChannel(0, 1, 0, 1), 5);
        due.is("8: from the history", y.inChannel(0, 1, 1, 2), 0);
    }

    private static void promise09Event() {
        CutRepairer x = new CutRepairer();
        x.setStock(2, 1, 50);
        x.change(1, 0, -7 + 20);
        x.change(1, 0, -7);
        x.send(2, 1, 1, 30);
        x.send(2, 0, 1, 2);
        x.receive(1, 2);
        int[][] events = {{1, 0, 0, 13, NONE, NONE}, {1, 0, 0, -7, NONE, NONE}, {2, 1, 1, 30, 1, 4},
            {2, 1, 1, 2, 0, NONE}, {1, 2, 1, 30, 2, 2}};
        for (int e = 0; e < events.length; e++) {
            for (int what = 0; what < 6; what++) {
                due.is("9: event(" + e + ", " + what + ")", x.event(e, what), events[e][what]);
            }
        }
        for (int wrong : new int[] {-1, 5, MIN, MAX}) {
            due.is("9: event " + wrong, x.event(wrong, 0), UNKNOWN);
            due.is("9: UNKNOWN before BAD_VALUE", x.event(wrong, -1), UNKNOWN);
        }
        for (int wrong : new int[] {-1, 6, MIN, MAX}) {
            due.is("9: what " + wrong, x.event(0, wrong), BAD_VALUE);
        }
        CutRepairer y = new CutRepairer();
        y.setStock(0, 0, 50);
        y.send(0, 1, 0, 5);
        y.setCut(0, 1);
        y.apply(false);
        y.receive(1, 0);
        due.is("9: sent before the history", y.event(0, 5), NONE);
        due.is("9: its sender", y.event(0, 4), 0);
        due.is("9: its amount", y.event(0, 3), 5);
    }

    /** Events: 0 send 0>1, 1 change 2, 2 receive at 1, 3 send 1>2, 4 change 0, 5 receive at 2, 6 change 1. */
    private static CutRepairer chain() {
        CutRepairer x = new CutRepairer();
        x.setStock(0, 0, 50);
        x.send(0, 1, 0, 10);
        x.change(2, 1, 5);
        x.receive(1, 0);
        x.send(1, 2, 0, 3);
        x.change(0, 1, 1);
        x.receive(2, 1);
        x.change(1, 1, 2);
        return x;
    }

    private static void promise10Clock() {
        CutRepairer x = chain();
        int[][] clocks = {{1, 0, 0}, {0, 0, 1}, {1, 1, 0}, {1, 2, 0}, {2, 0, 0}, {1, 2, 2}, {1, 3, 0}};
        for (int e = 0; e < clocks.length; e++) {
            for (int p = 0; p < 3; p++) {
                due.is("10: clock(" + e + ", " + p + ")", x.clock(e, p), clocks[e][p]);
            }
        }
        for (int wrong : new int[] {-1, 7, MIN, MAX}) {
            due.is("10: event " + wrong, x.clock(wrong, 0), UNKNOWN);
        }
        for (int wrong : new int[] {-1, 3, MIN, MAX}) {
            due.is("10: process " + wrong, x.clock(0, wrong), UNKNOWN);
        }
        CutRepairer y = new CutRepairer();
        y.beginSnapshot(0);
        y.receive(1, 0);
        y.change(1, 0, 1);
        due.is("10: a marker tells nothing", y.clock(0, 0), 0);
    }

    private static void promise11Order() {
        CutRepairer x = chain();
        String[] rows = {"0.11111", ".0...1.", "-.01.11", "-.-0.11", "-...0..", "----.0.", "-.--..0"};
        for (int e = 0; e < rows.length; e++) {
            for (int o = 0; o < rows.length; o++) {
                char sign = rows[e].charAt(o);
                int want = sign == '1' ? 1 : sign == '-' ? -1 : 0;
                due.is("11: order(" + e + ", " + o + ")", x.order(e, o), want);
            }
        }
        for (int wrong : new int[] {-1, 7, MIN, MAX}) {
            due.is("11: event " + wrong, x.order(wrong, 0), UNKNOWN);
            due.is("11: other " + wrong, x.order(0, wrong), UNKNOWN);
        }
    }

    private static void promise12Count() {
        CutRepairer x = Bench.of(4);
        x.setStock(0, 0, 50);
        x.send(0, 1, 0, 10);
        x.send(0, 2, 0, 10);
        x.send(0, 1, 0, 10);
        x.receive(1, 0);
        x.setCut(0, 2);
        x.setCut(1, 1);
        Bench.rule(x, "0a>=1");
        Bench.rule(x, "0a>=2");
        x.beginSnapshot(3);
        int[] counts = {4, 4, 2, 3, 2, 1, 3, 0};
        for (int what = 0; what < 8; what++) {
            due.is("12: count(" + what + ")", x.count(what), counts[what]);
        }
        for (int wrong : new int[] {-1, 8, MIN, MAX}) {
            due.is("12: count(" + wrong + ")", x.count(wrong), BAD_VALUE);
        }
        due.is("12: apply", x.apply(false), 1);
        int[] after = {4, 1, 2, 0, 2, 0, 0, 1};
        for (int what = 0; what < 8; what++) {
            due.is("12: count(" + what + ") then", x.count(what), after[what]);
        }
        CutRepairer y = Bench.of(2);
        due.is("12: none was begun", y.count(5), 0);
        y.beginSnapshot(0);
        due.is("12: running", y.count(5), 1);
        y.receive(1, 0);
        due.is("12: all recorded, but a marker", y.count(5), 1);
        y.receive(0, 1);
        due.is("12: complete", y.count(5), 2);
        y.change(0, 0, 1);
        due.is("12: stays complete", y.count(5), 2);
    }

    private static void promise13EventsOf() {
        CutRepairer x = chain();
        due.is("13: of 0", x.eventsOf(0), 2);
        due.is("13: of 1", x.eventsOf(1), 3);
        due.is("13: of 2", x.eventsOf(2), 2);
        for (int wrong : new int[] {-1, 3, MIN, MAX}) {
            due.is("13: of " + wrong, x.eventsOf(wrong), UNKNOWN);
        }
    }

    private static void errorsChangeNothing() {
        unchanged("2: reset", x -> due.is("2: reset", x.reset(6), BAD_VALUE));
        unchanged("3: setStock", x -> due.is("3: setStock", x.setStock(0, 0, 1), NOT_NOW));
        unchanged("4: change", x -> due.is("4: change", x.change(2, 1, -100), NOT_POSSIBLE));
        unchanged("4: change", x -> due.is("4: change", x.change(2, 1, 0), BAD_VALUE));
        unchanged("5: send", x -> due.is("5: send", x.send(0, 1, 0, 100), NOT_POSSIBLE));
        unchanged("5: send", x -> due.is("5: send", x.send(0, 1, 2, 1), UNKNOWN));
        unchanged("6: receive", x -> due.is("6: receive", x.receive(0, 0), UNKNOWN));
        unchanged("6: receive", x -> due.is("6: receive", x.receive(0, 2), NONE));
        unchanged("8: inChannel", x -> due.is("8: inChannel", x.inChannel(0, 1, 7, 0), NONE));
        unchanged("9: event", x -> due.is("9: event", x.event(9, 0), UNKNOWN));
        unchanged("10: clock", x -> due.is("10: clock", x.clock(0, 9), UNKNOWN));
        unchanged("11: order", x -> due.is("11: order", x.order(0, 9), UNKNOWN));
        unchanged("12: count", x -> due.is("12: count", x.count(8), BAD_VALUE));
        unchanged("14: beginSnapshot", x -> due.is("14: beginSnapshot", x.beginSnapshot(0), NOT_NOW));
        unchanged("17: takeSnapshot", x -> due.is("17: takeSnapshot", x.takeSnapshot(), NOT_NOW));
        unchanged("18: setCut", x -> due.is("18: setCut", x.setCut(0, 2), BAD_VALUE));
        unchanged("24: inTransit", x -> due.is("24: inTransit", x.inTransit(0, 1, -2, 0), BAD_VALUE));
        unchanged("28: removeRule", x -> due.is("28: removeRule", x.removeRule(2), UNKNOWN));
        unchanged("31: setMoveCost", x -> due.is("31: setMoveCost", x.setMoveCost(0, 1, 0), BAD_VALUE));
        unchanged("32: setOutsideCosts", x -> due.is("32: setOutsideCosts", x.setOutsideCosts(1, 0), BAD_VALUE));
        unchanged("32: setOutsideCosts", x -> due.is("32: setOutsideCosts", x.setOutsideCosts(1001, 1), BAD_VALUE));
        unchanged("38: restore", x -> due.is("38: restore", x.restore(), NONE));
    }

    /** Two objects with the same calls tell the same, though the one had a call more that returned an error. */
    private static void unchanged(String call, Consumer<CutRepairer> fault) {
        CutRepairer x = new CutRepairer();
        CutRepairer y = new CutRepairer();
        busy(x);
        busy(y);
        fault.accept(x);
        same(call + " changes nothing", x, y);
    }

    private static void same(String call, CutRepairer x, CutRepairer y) {
        String told = Told.everything(x);
        String wanted = Told.everything(y);
        if (!told.equals(wanted)) {
            System.out.println(told + "\n---- but due is\n" + wanted);
        }
        due.is(call, told.equals(wanted) ? 1 : 0, 1);
    }
}
