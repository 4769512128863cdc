/** Promises 31 to 38: costs, repairs, replay and restoring. */
public final class RepairPromiseTests {
    private static final int UNKNOWN = -100001;
    private static final int BAD_VALUE = -100002;
    private static final int NOT_POSSIBLE = -100004;
    private static final int FULL = -100005;
    private static final int NONE = -100006;
    private static final int MIN = Integer.MIN_VALUE;
    private static final int MAX = Integer.MAX_VALUE;

    private static final Due due = new Due();

    private RepairPromiseTests() {
    }

    public static void main(String[] args) {
        promise31SetMoveCost();
        promise32SetOutsideCosts();
        promise33RepairCost();
        promise33RepairCostAtTheCut();
        promise33NoRepair();
        promise34Moved();
        promise34MovedFirstInOrder();
        promise34MovedByWayOfAnother();
        promise35Outside();
        promise35OutsideInsteadOfMoves();
        promise36RepairedStock();
        promise36RepairedStockWithMessages();
        errorsOfQuestionsAboutTheRepair();
        promise37Apply();
        promise37ApplyRepairs();
        promise37ApplyLeavesOut();
        promise37ApplyTakesWhatIsAtTheFront();
        promise37ApplyWithAFullChannel();
        promise37ApplyGuarded();
        promise37ApplyGuardedReceives();
        promise37ApplyTwice();
        promise37ApplyErrors();
        promise38Restore();
        promise38RestoreOnce();
        promise38RestoreLeavesRulesCostsAndText();
        due.end();
    }

    private static CutRepairer with(int... stocksA) {
        CutRepairer x = Bench.of(stocksA.length);
        for (int p = 0; p < stocksA.length; p++) {
            x.setStock(p, 0, stocksA[p]);
        }
        return x;
    }

    private static CutRepairer ruled(CutRepairer x, String... rules) {
        for (String rule : rules) {
            if (Bench.rule(x, rule) < 0) {
                throw new IllegalStateException("no rule: " + rule);
            }
        }
        return x;
    }

    private static void moves(String test, CutRepairer x, int stock, int... wanted) {
        int n = x.count(0);
        int k = 0;
        for (int p = 0; p < n; p++) {
            for (int q = 0; q < n; q++) {
                if (p != q) {
                    due.is(test + ": moved(" + p + ", " + q + ", " + stock + ")", x.moved(p, q, stock), wanted[k]);
                    k++;
                }
            }
        }
    }

    private static void outsides(String test, CutRepairer x, int stock, boolean burnt, int... wanted) {
        for (int p = 0; p < wanted.length; p++) {
            due.is(test + ": outside(" + p + ", " + stock + ", " + burnt + ")", x.outside(p, stock, burnt), wanted[p]);
        }
    }

    private static void repaired(String test, CutRepairer x, int stock, int... wanted) {
        for (int p = 0; p < wanted.length; p++) {
            due.is(test + ": repairedStock(" + p + ", " + stock + ")", x.repairedStock(p, stock), wanted[p]);
        }
    }

    private static void stocks(String test, CutRepairer x, int stock, int... wanted) {
        for (int p = 0; p < wanted.length; p++) {
            due.is(test + ": stock(" + p + ", " + stock + ")", x.stock(p, stock), wanted[p]);
        }
    }

    private static void promise31SetMoveCost() {
        CutRepairer x = ruled(with(50, 0, 0), "1a>=10");
        for (int p = 0; p < 3; p++) {
            for (int q = 0; q < 3; q++) {
                due.is("31: first", x.setMoveCost(p, q, 30), p == q ? UNKNOWN : 1);
            }
        }
        due.is("31: with 30", x.repairCost(), 300);
        due.is("31: to 1000", x.setMoveCost(0, 1, 1000), 30);
        due.is("31: to 1", x.setMoveCost(0, 1, 1), 1000);
        due.is("31: to 2", x.setMoveCost(0, 1, 2), 1);
        due.is("31: with 2", x.repairCost(), 20);
        for (int wrong : new int[] {0, -1, 1001, MIN, MAX}) {
            due.is("31: cost " + wrong, x.setMoveCost(0, 1, wrong), BAD_VALUE);
            due.is("31: UNKNOWN before BAD_VALUE", x.setMoveCost(1, 1, wrong), UNKNOWN);
        }
        for (int wrong : new int[] {-1, 3, MIN, MAX}) {
            due.is("31: from " + wrong, x.setMoveCost(wrong, 1, 5), UNKNOWN);
            due.is("31: to " + wrong, x.setMoveCost(1, wrong, 5), UNKNOWN);
        }
        due.is("31: the other way has its own", x.setMoveCost(1, 0, 5), 30);
        due.is("31: stays", x.setMoveCost(0, 1, 2), 2);
    }

    private static void promise32SetOutsideCosts() {
        CutRepairer x = ruled(with(50, 0), "*a=53", "*b=0");
        due.is("32: as at first", x.setOutsideCosts(100, 100), 0);
        due.is("32: cost at first", x.repairCost(), 300);
        due.is("32: grant", x.setOutsideCosts(7, 100), 1);
        due.is("32: cost of grants", x.repairCost(), 21);
        due.is("32: burn", x.setOutsideCosts(7, 9), 1);
        due.is("32: neither", x.setOutsideCosts(7, 9), 0);
        x.removeRule(0);
        ruled(x, "*a=48");
        due.is("32: cost of burns", x.repairCost(), 18);
        due.is("32: the most", x.setOutsideCosts(1000, 1000), 1);
        due.is("32: the least", x.setOutsideCosts(1, 1), 1);
        for (int wrong : new int[] {0, -1, 1001, MIN, MAX}) {
            due.is("32: grant " + wrong, x.setOutsideCosts(wrong, 5), BAD_VALUE);
            due.is("32: burn " + wrong, x.setOutsideCosts(5, wrong), BAD_VALUE);
        }
        due.is("32: nothing was set", x.setOutsideCosts(1, 1), 0);
        due.is("32: both", x.setOutsideCosts(2, 3), 1);
    }

    private static void promise33RepairCost() {
        due.is("33: no rules", with(50, 3, 1000).repairCost(), 0);
        due.is("33: kept rules", ruled(with(50, 3, 0), "0a>=50", "1a<=3", "*a=53", "~a=0").repairCost(), 0);
        due.is("33: a move", ruled(with(50, 0, 0), "1a>=10").repairCost(), 10);
        due.is("33: two moves", ruled(with(50, 0, 0), "1a>=10", "2a=7").repairCost(), 17);
        due.is("33: a grant", ruled(with(50, 0, 0), "*a>=52").repairCost(), 200);
        due.is("33: a grant to the right one", ruled(with(50, 0, 0), "*a>=60", "1a>=10").repairCost(), 1000);
        due.is("33: a burn", ruled(with(50, 0, 0), "*a<=45").repairCost(), 500);
        due.is("33: both stocks", ruled(with(50, 0, 0), "1a>=10", "*b=3", "0b=1").repairCost(), 310);
        due.is("33: the most", ruled(with(0, 0, 0), "*a=3000", "*b=3000").repairCost(), 600000);
        CutRepairer x = ruled(with(1000, 1000, 1000, 1000, 1000), "*a=0");
        x.setOutsideCosts(1, 1000);
        due.is("33: all burnt", x.repairCost(), 5000000);
    }

    private static void promise33RepairCostAtTheCut() {
        CutRepairer x = ruled(with(50, 0), "0a=50", "1a=0");
        x.send(0, 1, 0, 5);
        x.receive(1, 0);
        due.is("33: at the empty cut", x.repairCost(), 0);
        x.setCut(0, 1);
        due.is("33: in transit", x.repairCost(), 500);
        x.setCut(1, 1);
        due.is("33: back again", x.repairCost(), 5);
        x.setCut(0, 0);
        due.is("33: not consistent", x.repairCost(), NOT_POSSIBLE);
    }

    private static void promise33NoRepair() {
        due.is("33: above 1000", ruled(with(0, 0), "0a>=1001").repairCost(), NONE);
        due.is("33: equal to 1001", ruled(with(0, 0), "0a=1001").repairCost(), NONE);
        due.is("33: to 1000", ruled(with(1000, 0), "1a>=1000").repairCost(), 1000);
        due.is("33: at most above 1000", ruled(with(1000, 0), "0a<=9999").repairCost(), 0);
        due.is("33: total of 2001", ruled(with(0, 0), "*b>=2001").repairCost(), NONE);
        due.is("33: total of 2000", ruled(with(0, 0), "*b>=2000").repairCost(), 200000);
        due.is("33: against each other", ruled(with(0, 0), "0a>=5", "0a<=4").repairCost(), NONE);
        due.is("33: total less", ruled(with(0, 0), "0a=10", "1a=10", "*a<=19").repairCost(), NONE);
        due.is("33: total more", ruled(with(0, 0), "0a=10", "1a<=10", "*a>=21").repairCost(), NONE);
        due.is("33: total just so", ruled(with(0, 0), "0a=10", "1a=10", "*a=20").repairCost(), 2000);
        due.is("33: totals", ruled(with(0, 0), "*a<=4", "*a>=5").repairCost(), NONE);
        due.is("33: transit more", ruled(with(0, 0), "~b>=1").repairCost(), NONE);
        due.is("33: transit kept", ruled(with(0, 0), "~b=0").repairCost(), 0);
        CutRepairer w = ruled(with(0, 0, 0, 0, 0), "*a=5000");
        due.is("33: total of five", w.repairCost(), 500000);
        w.reset(2);
        due.is("33: total of two afterwards", ruled(w, "*a>=2001").repairCost(), NONE);
        CutRepairer x = ruled(with(50, 0), "~a<=4");
        x.send(0, 1, 0, 5);
        due.is("33: transit at the empty cut", x.repairCost(), 0);
        x.setCut(0, 1);
        due.is("33: transit too much", x.repairCost(), NONE);
        CutRepairer y = ruled(with(50, 0), "*a<=4");
        y.send(0, 1, 0, 5);
        y.setCut(0, 1);
        due.is("33: the message alone is too much", y.repairCost(), NONE);
        CutRepairer z = ruled(with(50, 0), "*a<=5");
        z.send(0, 1, 0, 5);
        z.setCut(0, 1);
        due.is("33: nothing but the message", z.repairCost(), 4500);
    }

    private static void promise34Moved() {
        CutRepairer x = ruled(with(50, 0, 0), "1a>=10", "2a=7", "0b=0");
        x.setStock(0, 1, 3);
        moves("34: a", x, 0, 10, 7, 0, 0, 0, 0);
        moves("34: b", x, 1, 0, 3, 0, 0, 0, 0);
        CutRepairer y = ruled(with(0, 4, 9), "0a=13");
        moves("34: to 0", y, 0, 0, 0, 4, 0, 9, 0);
        moves("34: nothing", with(1, 2, 3), 0, 0, 0, 0, 0, 0, 0);
    }

    private static void promise34MovedFirstInOrder() {
        moves("34: the later receiver", ruled(with(50, 0, 0), "0a<=40"), 0, 0, 10, 0, 0, 0, 0);
        moves("34: the later sender", ruled(with(10, 10, 0), "2a>=5"), 0, 0, 0, 0, 5, 0, 0);
        moves("34: as far as it has", ruled(with(10, 3, 0), "2a>=5"), 0, 0, 2, 0, 3, 0, 0);
        moves("34: as far as there is room", ruled(with(50, 0, 995), "0a<=40"), 0, 5, 5, 0, 0, 0, 0);
        // All four pairs cost the same: the less from 0 to 2 the better, whatever the others do.
        moves("34: crosswise", ruled(with(10, 10, 0, 0), "0a=0", "1a=0", "2a=10", "3a=10"), 0,
                0, 0, 10, 0, 10, 0, 0, 0, 0, 0, 0, 0);
        CutRepairer x = ruled(with(10, 10, 0, 0), "0a=0", "1a=0", "2a=10", "3a=10");
        x.setMoveCost(0, 3, 2);
        moves("34: the cost comes first", x, 0, 0, 10, 0, 0, 0, 10, 0, 0, 0, 0, 0, 0);
        // From 0 to 2 goes as little as can be, though more in all places behind it follows.
        moves("34: five processes", ruled(with(6, 6, 0, 0, 0), "0a=0", "1a=0", "2a=4", "3a=4", "4a=4"), 0,
                0, 0, 2, 4, 0, 4, 2, 0, 0, 0, 0, 0, 0, 0, 0, 0, 0, 0, 0, 0);
    }

    private static void promise34MovedByWayOfAnother() {
        CutRepairer x = ruled(with(10, 0, 0), "2a=10");
        x.setMoveCost(0, 2, 3);
        moves("34: by way of 1", x, 0, 10, 0, 0, 10, 0, 0);
        due.is("34: its cost", x.repairCost(), 20);
        x.setMoveCost(0, 2, 2);
        moves("34: as dear, so directly", x, 0, 0, 10, 0, 0, 0, 0);
        CutRepairer y = ruled(with(1000, 1000, 0), "0a=990", "1a=1000");
        y.setMoveCost(0, 2, 9);
        moves("34: it does not matter when", y, 0, 10, 0, 0, 10, 0, 0);
        CutRepairer z = ruled(with(0, 10, 0, 0), "0a=10");
        z.setMoveCost(1, 0, 3);
        moves("34: by way of 3 rather than 2", z, 0, 0, 0, 0, 0, 0, 10, 0, 0, 0, 10, 0, 0);
        z.setMoveCost(3, 0, 2);
        moves("34: by way of 2, as it is cheaper", z, 0, 0, 0, 0, 0, 10, 0, 10, 0, 0, 0, 0, 0);
        z.setMoveCost(2, 0, 2);
        moves("34: all as dear", z, 0, 0, 0, 0, 0, 0, 10, 0, 0, 0, 10, 0, 0);
    }

    private static void promise35Outside() {
        CutRepairer x = ruled(with(50, 0, 0), "*a=55", "*b=2");
        outsides("35: the later one", x, 0, false, 0, 0, 5);
        outsides("35: none burnt", x, 0, true, 0, 0, 0);
        outsides("35: of b", x, 1, false, 0, 0, 2);
        CutRepairer y = ruled(with(50, 4, 998), "*a=1060");
        outsides("35: as far as there is room", y, 0, false, 0, 6, 2);
        CutRepairer z = ruled(with(50, 4, 3), "*a=40");
        outsides("35: burnt by the later ones", z, 0, true, 10, 4, 3);
        outsides("35: none granted", z, 0, false, 0, 0, 0);
        // A move comes before a grant in the order, and costs more than none.
        CutRepairer w = ruled(with(10, 0), "0a=12", "1a=1");
        outsides("35: to each its own", w, 0, false, 2, 1);
        moves("35: nothing moved", w, 0, 0, 0);
    }

    private static void promise35OutsideInsteadOfMoves() {
        CutRepairer x = ruled(with(10, 0), "0a=4", "1a=6");
        x.setMoveCost(0, 1, 200);
        moves("35: as dear as the move", x, 0, 0, 0);
        outsides("35: granted", x, 0, false, 0, 6);
        outsides("35: burnt", x, 0, true, 6, 0);
        due.is("35: cost", x.repairCost(), 1200);
        x.setOutsideCosts(100, 101);
        moves("35: now the move", x, 0, 6, 0);
        outsides("35: none granted", x, 0, false, 0, 0);
        x.setOutsideCosts(1000, 1);
        x.setMoveCost(0, 1, 1000);
        due.is("35: a move again", x.repairCost(), 6000);
        // Where a grant may go to either, the dear move decides.
        CutRepairer y = ruled(with(5, 5), "*a=11");
        outsides("35: the last grant", y, 0, false, 0, 1);
        CutRepairer z = ruled(with(0, 9), "0a=9", "*a=9");
        z.setMoveCost(1, 0, 300);
        z.setOutsideCosts(1, 299);
        outsides("35: grants to 0, as dear", z, 0, false, 9, 0);
        outsides("35: burns of 1", z, 0, true, 0, 9);
    }

    private static void promise36RepairedStock() {
        CutRepairer x = ruled(with(50, 0, 4), "1a>=10", "2a<=1", "*a=60");
        x.setStock(2, 1, 8);
        repaired("36: a", x, 0, 50, 10, 0);
        repaired("36: b", x, 1, 0, 0, 8);
        due.is("36: the present stock stays", x.stock(1, 0), 0);
        CutRepairer y = ruled(with(50, 1000, 0), "*a=2000");
        repaired("36: up to 1000", y, 0, 50, 1000, 950);
    }

    private static void promise36RepairedStockWithMessages() {
        CutRepairer x = ruled(with(50, 0), "*a=60");
        x.send(0, 1, 0, 20);
        Bench.cutAll(x);
        repaired("36: with the message", x, 0, 30, 10);
        x.receive(1, 0);
        Bench.cutAll(x);
        repaired("36: with the message received", x, 0, 30, 30);
    }

    private static void errorsOfQuestionsAboutTheRepair() {
        CutRepairer x = ruled(with(50, 0, 0), "0a>=1001");
        due.is("34: NONE", x.moved(0, 1, 0), NONE);
        due.is("35: NONE", x.outside(0, 0, true), NONE);
        due.is("36: NONE", x.repairedStock(0, 0), NONE);
        x.send(0, 1, 0, 5);
        x.receive(1, 0);
        x.setCut(1, 1);
        due.is("33: NOT_POSSIBLE before NONE", x.repairCost(), NOT_POSSIBLE);
        due.is("34: NOT_POSSIBLE before NONE", x.moved(0, 1, 1), NOT_POSSIBLE);
        due.is("35: NOT_POSSIBLE before NONE", x.outside(0, 1, false), NOT_POSSIBLE);
        due.is("36: NOT_POSSIBLE before NONE", x.repairedStock(0, 1), NOT_POSSIBLE);
        for (int wrong : new int[] {-1, 3, MIN, MAX}) {
            due.is("34: from " + wrong, x.moved(wrong, 1, 0), UNKNOWN);
            due.is("34: to " + wrong, x.moved(1, wrong, 0), UNKNOWN);
            due.is("35: process " + wrong, x.outside(wrong, 0, true), UNKNOWN);
            due.is("36: process " + wrong, x.repairedStock(wrong, 0), UNKNOWN);
        }
        for (int wrong : new int[] {-1, 2, MIN, MAX}) {
            due.is("34: stock " + wrong, x.moved(0, 1, wrong), UNKNOWN);
            due.is("35: stock " + wrong, x.outside(0, wrong, false), UNKNOWN);
            due.is("36: stock " + wrong, x.repairedStock(0, wrong), UNKNOWN);
        }
        due.is("34: to itself", x.moved(2, 2, 0), UNKNOWN);
    }

    private static void promise37Apply() {
        CutRepairer x = with(50, 0);
        x.setStock(1, 1, 9);
        x.send(0, 1, 0, 5);
        x.change(1, 1, -4);
        x.receive(1, 0);
        x.beginSnapshot(0);
        x.receive(1, 0);
        x.send(1, 0, 0, 3);
        x.setCut(0, 1);
        x.setCut(1, 1);
        due.is("37: two again", x.apply(true), 2);
        stocks("37: a", x, 0, 45, 2);
        stocks("37: b", x, 1, 0, 5);
        int[] counts = {2, 2, 1, 0, 0, 0, 0, 1};
        for (int what = 0; what < 8; what++) {
            due.is("37: count(" + what + ")", x.count(what), counts[what]);
        }
        due.is("37: no record", x.recorded(0), NONE);
        due.is("37: cut of 1", x.cut(1), 0);
        due.is("37: events of 0", x.eventsOf(0), 0);
        due.is("37: events of 1", x.eventsOf(1), 2);
        int[][] events = {{1, 2, 0, 5, 0, NONE}, {1, 1, 0, 3, 0, NONE}};
        for (int e = 0; e < 2; e++) {
            for (int what = 0; what < 6; what++) {
                due.is("37: event(" + e + ", " + what + ")", x.event(e, what), events[e][what]);
            }
        }
        due.is("37: the message stays", x.inChannel(1, 0, 0, 1), 3);
        due.is("37: its send", x.inChannel(1, 0, 0, 2), 1);
        due.is("37: the marker does not", x.inChannel(1, 0, 1, 0), NONE);
        due.is("37: clock", x.clock(1, 1), 2);
        due.is("37: clock of 0", x.clock(1, 0), 0);
        due.is("37: the markers are gone", x.receive(1, 0), NONE);
        due.is("37: not NOT_NOW", x.beginSnapshot(1), 1);
    }

    private static void promise37ApplyRepairs() {
        CutRepairer x = ruled(with(50, 0, 0), "1a>=10", "*a=55");
        due.is("37: nothing to replay", x.apply(false), 0);
        // To grant the 5 units to 1 saves 5 moves.
        stocks("37: repaired", x, 0, 45, 10, 0);
        due.is("37: nothing broken", x.broken(false), 0);
        due.is("37: the cut has it", x.stockAtCut(0, 0), 45);
        due.is("37: no events, so a stock can be set", x.setStock(0, 0, 3), 45);
        due.is("37: rules stay", x.count(4), 2);
        due.is("37: costs", x.repairCost(), 4200);
    }

    private static void promise37ApplyLeavesOut() {
        CutRepairer x = ruled(with(50, 0, 990), "0a<=5", "2a>=0");
        x.send(0, 1, 0, 6);
        x.change(0, 0, -5);
        x.change(0, 0, -1);
        x.send(0, 1, 0, 2);
        x.receive(1, 0);
        x.receive(1, 0);
        x.change(2, 0, 10);
        due.is("37: at the empty cut", x.repairedStock(2, 0), 1000);
        // 10 units fit at process 2, 35 go to process 1; then only -5 can happen, and 10 more do not fit at 2.
        due.is("37: left out", x.apply(false), 1);
        stocks("37: after it", x, 0, 0, 35, 1000);
        due.is("37: the event", x.event(0, 3), -5);
        due.is("37: no messages", x.count(2), 0);
    }

    private static void promise37ApplyTakesWhatIsAtTheFront() {
        CutRepairer x = ruled(with(50, 0), "0a<=45");
        x.setStock(0, 1, 50);
        x.send(0, 1, 0, 46);
        x.send(0, 1, 1, 7);
        x.receive(1, 0);
        x.receive(1, 0);
        x.change(1, 1, 1);
        // The first send is left out; the first receive takes the second message, the second finds none.
        due.is("37: three again", x.apply(false), 3);
        due.is("37: kind", x.event(1, 1), 2);
        due.is("37: stock", x.event(1, 2), 1);
        due.is("37: amount", x.event(1, 3), 7);
        due.is("37: its send", x.event(1, 5), 0);
        stocks("37: b then", x, 1, 43, 8);

        CutRepairer y = ruled(with(50, 999), "1a>=999");
        y.setStock(0, 1, 50);
        y.send(0, 1, 0, 2);
        y.setCut(0, 1);
        y.send(0, 1, 1, 3);
        y.change(1, 0, -5);
        y.receive(1, 0);
        y.receive(1, 0);
        y.change(1, 0, 4);
        // As the change of -5 is left out, the front does not fit at process 1, and all behind it has to wait.
        due.is("37: guarded", y.apply(true), 1);
        due.is("37: both in the channel", y.count(2), 2);
        due.is("37: the old one", y.inChannel(0, 1, 0, 2), NONE);
        due.is("37: the new one", y.inChannel(0, 1, 1, 2), 0);
        due.is("37: back", y.restore(), 6);
        due.is("37: not guarded", y.apply(false), 5);
        due.is("37: stock in the end", y.stock(1, 0), 1000);
        due.is("37: stock b in the end", y.stock(1, 1), 3);
    }

    private static void promise37ApplyWithAFullChannel() {
        CutRepairer x = with(50, 0);
        for (int k = 0; k < 8; k++) {
            x.send(0, 1, 0, k + 1);
            if (k % 2 == 0) {
                x.receive(1, 0);
            }
        }
        x.setCut(0, 7);
        due.is("37: seven in transit", x.inTransit(0, 1, -1, 0), 7);
        // Four receives make room: 0, 1, 2 are before the last send, 3 too.
        due.is("37: all again", x.apply(false), 5);
        due.is("37: messages", x.count(2), 4);
        due.is("37: the front", x.inChannel(0, 1, 0, 1), 5);
        due.is("37: the end", x.inChannel(0, 1, 3, 1), 8);

        CutRepairer y = with(50, 0);
        for (int k = 0; k < 6; k++) {
            y.send(0, 1, 0, 1);
        }
        y.receive(1, 0);
        y.send(0, 1, 0, 2);
        y.receive(1, 0);
        y.send(0, 1, 0, 3);
        y.receive(1, 0);
        y.setCut(0, 8);
        due.is("37: only receives again", y.apply(false), 3);
        due.is("37: five left", y.count(2), 5);
        due.is("37: restored", y.restore(), 11);
        y.setCut(0, 7);
        y.setCut(1, 0);
        y.apply(false);
        due.is("37: one less in transit, one more sent", y.count(2), 5);

        CutRepairer z = with(50, 0, 0);
        for (int k = 0; k < 6; k++) {
            z.send(0, 1, 0, 1);
        }
        z.receive(1, 0);
        z.change(0, 1, 4);
        z.send(0, 1, 0, 2);
        z.setCut(0, 6);
        ruled(z, "1a<=0");
        due.is("37: the receive is left out, so the send is, too", z.apply(true), 1);
        due.is("37: six are left", z.count(2), 6);
        due.is("37: full", z.send(0, 1, 0, 1), FULL);
    }

    private static void promise37ApplyGuarded() {
        CutRepairer x = ruled(with(50, 10, 0), "0a>=40", "*a<=62", "~a<=5", "1b=0");
        x.change(0, 0, -10);
        x.change(0, 0, -1);
        x.change(1, 0, 12);
        x.change(2, 0, 1);
        x.change(1, 0, 1);
        x.change(1, 1, 1);
        x.send(1, 2, 0, 6);
        x.send(1, 2, 0, 5);
        x.send(1, 0, 0, 1);
        x.change(2, 1, 3);
        due.is("37: guarded", x.apply(true), 4);
        int[] amounts = {-10, 12, 5, 3};
        for (int e = 0; e < amounts.length; e++) {
            due.is("37: amount of " + e, x.event(e, 3), amounts[e]);
        }
        due.is("37: nothing broken", x.broken(false), 0);
        due.is("37: before it", x.restore(), 10);
        due.is("37: not guarded", x.apply(false), 10);
        due.is("37: broken then", x.broken(false), 0b1111);
    }

    private static void promise37ApplyGuardedReceives() {
        CutRepairer x = ruled(with(50, 0, 0), "~a>=3");
        x.send(0, 1, 0, 3);
        x.send(0, 2, 0, 3);
        x.setCut(0, 1);
        x.receive(1, 0);
        x.receive(2, 0);
        // The second send comes first, so that the receive at 1 leaves 3 in transit; the one at 2 would not.
        due.is("37: one receive", x.apply(true), 2);
        due.is("37: the one at 2 is left out", x.count(2), 1);
        due.is("37: it is in its channel", x.inChannel(0, 2, 0, 1), 3);
        stocks("37: stocks", x, 0, 44, 3, 0);

        CutRepairer y = ruled(with(50, 0, 0), "1a<=3");
        y.send(0, 1, 0, 4);
        y.receive(1, 0);
        y.change(1, 0, -2);
        y.change(1, 0, 3);
        due.is("37: no receive above the rule", y.apply(true), 2);
        due.is("37: stock of 1", y.stock(1, 0), 3);
        due.is("37: the message waits", y.inChannel(0, 1, 0, 2), 0);

        CutRepairer z = ruled(with(50, 0, 0), "*a=50");
        z.send(0, 1, 0, 4);
        z.receive(1, 0);
        z.change(1, 0, 2);
        due.is("37: sends and receives keep the total", z.apply(true), 2);
    }

    private static void promise37ApplyTwice() {
        CutRepairer x = with(50, 0);
        x.send(0, 1, 0, 5);
        x.receive(1, 0);
        x.setCut(0, 1);
        due.is("37: first", x.apply(false), 1);
        due.is("37: second, at the empty cut", x.apply(false), 1);
        stocks("37: as before", x, 0, 45, 5);
        x.setCut(1, 1);
        due.is("37: third", x.apply(false), 0);
        due.is("37: no events", x.count(1), 0);
        due.is("37: back to the second", x.restore(), 1);
        due.is("37: its cut", x.cut(1), 1);
        due.is("37: not back to the first", x.restore(), NONE);
    }

    private static void promise37ApplyErrors() {
        CutRepairer x = ruled(with(50, 0, 0), "0a>=1001");
        x.send(0, 1, 0, 5);
        x.receive(1, 0);
        due.is("37: NONE", x.apply(false), NONE);
        x.setCut(1, 1);
        due.is("37: NOT_POSSIBLE before NONE", x.apply(true), NOT_POSSIBLE);
        due.is("37: nothing to restore", x.count(7), 0);
        due.is("37: events stay", x.count(1), 2);
        due.is("37: the cut stays", x.cut(1), 1);
        x.removeRule(0);
        x.setCut(1, 0);
        due.is("37: applied", x.apply(false), 2);
        ruled(x, "0a>=1001");
        due.is("37: NONE again", x.apply(false), NONE);
        due.is("37: the older one can still be restored", x.restore(), 2);
    }

    /** A system with all that can be restored: messages, markers, a snapshot, a history, a cut. */
    private static CutRepairer busy() {
        CutRepairer x = with(50, 0, 7);
        x.send(0, 1, 0, 5);
        x.receive(1, 0);
        x.send(1, 2, 0, 2);
        x.beginSnapshot(1);
        x.send(1, 2, 0, 1);
        x.receive(0, 1);
        x.change(2, 1, 8);
        x.send(2, 0, 1, 3);
        Bench.cutAt(x, 1, 1, 0);
        return ruled(x, "2a=9", "*b<=30");
    }

    private static void promise38Restore() {
        CutRepairer x = busy();
        String before = Told.system(x);
        due.is("38: apply", x.apply(false), 4);
        x.change(0, 0, 3);
        x.setCut(0, 1);
        x.beginSnapshot(2);
        x.receive(1, 2);
        due.is("38: restore", x.restore(), 6);
        due.is("38: all as before", Told.system(x).equals(before) ? 1 : 0, 1);
        CutRepairer y = busy();
        y.apply(true);
        y.restore();
        CutRepairer z = busy();
        due.is("38: it goes on: message", y.receive(2, 1), z.receive(2, 1));
        due.is("38: it goes on: marker", y.receive(2, 1), z.receive(2, 1));
        due.is("38: it goes on: send", y.send(2, 0, 0, 1), z.send(2, 0, 0, 1));
        due.is("38: it goes on: snapshot", y.receive(0, 2), z.receive(0, 2));
        due.is("38: it goes on: all", Told.system(y).equals(Told.system(z)) ? 1 : 0, 1);
    }

    private static void promise38RestoreOnce() {
        CutRepairer x = busy();
        due.is("38: nothing yet", x.restore(), NONE);
        x.apply(false);
        due.is("38: there is", x.count(7), 1);
        due.is("38: once", x.restore(), 6);
        due.is("38: there is no more", x.count(7), 0);
        due.is("38: twice", x.restore(), NONE);
        due.is("38: events stay", x.count(1), 6);
        x.apply(false);
        x.reset(3);
        due.is("38: not behind reset", x.restore(), NONE);
        CutRepairer y = busy();
        y.apply(false);
        due.is("38: a reset that fails forgets nothing", y.reset(9), BAD_VALUE);
        due.is("38: so it can be restored", y.restore(), 6);
    }

    private static void promise38RestoreLeavesRulesCostsAndText() {
        CutRepairer x = busy();
        x.setMoveCost(0, 1, 5);
        x.apply(false);
        x.removeRule(0);
        x.setMoveCost(0, 1, 6);
        x.setMoveCost(1, 0, 4);
        x.setOutsideCosts(11, 12);
        ruled(x, "~a<=999", "0b>=1");
        x.type('7');
        x.restore();
        due.is("38: rules", x.count(4), 3);
        due.is("38: the first", x.rule(0, 0), 8);
        due.is("38: the last", x.rule(2, 0), 0);
        due.is("38: a cost", x.setMoveCost(0, 1, 1), 6);
        due.is("38: another", x.setMoveCost(1, 0, 1), 4);
        due.is("38: outside", x.setOutsideCosts(11, 12), 0);
        due.is("38: text", x.addRule(), 3);
        due.is("38: its number", x.rule(3, 3), 17);
        due.is("38: its length", x.clearText(), 6);
    }
}
