/** Promises 25 to 30: the text and the rules. */
public final class RulePromiseTests {
    private static final int UNKNOWN = -100001;
    private static final int BAD_VALUE = -100002;
    private static final int NOT_POSSIBLE = -100004;
    private static final int FULL = -100005;
    private static final int MIN = Integer.MIN_VALUE;
    private static final int MAX = Integer.MAX_VALUE;

    private static final Due due = new Due();

    private RulePromiseTests() {
    }

    public static void main(String[] args) {
        promise25Type();
        promise26ClearText();
        promise27AddRule();
        promise27Faults();
        promise27FaultsOfAnyCharacter();
        promise27Full();
        promise28RemoveRule();
        promise29Rule();
        promise30BrokenInThePresentState();
        promise30BrokenAtTheCut();
        due.end();
    }

    private static void promise25Type() {
        CutRepairer x = new CutRepairer();
        for (int k = 1; k <= 20; k++) {
            due.is("25: character " + k, x.type(k % 2 == 0 ? 'q' : (char) 0), k);
        }
        due.is("25: the 21st", x.type('0'), FULL);
        due.is("25: and again", x.type(Character.MAX_VALUE), FULL);
        due.is("25: length", x.clearText(), 20);
        due.is("25: after clearing", x.type('~'), 1);
        due.is("25: any character", x.type(Character.MAX_VALUE), 2);
    }

    private static void promise26ClearText() {
        CutRepairer x = new CutRepairer();
        due.is("26: at first", x.clearText(), 0);
        Bench.type(x, "*a<=7");
        due.is("26: five", x.clearText(), 5);
        due.is("26: none", x.clearText(), 0);
        due.is("26: no rule in it", x.addRule(), -100);
    }

    private static void promise27AddRule() {
        CutRepairer x = new CutRepairer();
        String[] texts = {"0a<=5", "2b>=9999", "*a=0", "~b=12", "1b=0001", "~a<=0000", "*b>=999"};
        int[][] rules = {{0, 0, 0, 5}, {2, 1, 1, 9999}, {8, 0, 2, 0}, {9, 1, 2, 12}, {1, 1, 2, 1}, {9, 0, 0, 0},
            {8, 1, 1, 999}};
        for (int r = 0; r < texts.length; r++) {
            due.is("27: " + texts[r], Bench.rule(x, texts[r]), r);
        }
        for (int r = 0; r < texts.length; r++) {
            for (int what = 0; what < 4; what++) {
                due.is("27: " + texts[r] + " what " + what, x.rule(r, what), rules[r][what]);
            }
        }
        due.is("27: the text stays", x.addRule(), 7);
        due.is("27: the same rule again", x.rule(7, 3), 999);
        due.is("27: its length", x.clearText(), 7);
    }

    private static void promise27Faults() {
        CutRepairer x = new CutRepairer();
        fault(x, "", 0);
        fault(x, "3a<=1", 0);
        fault(x, "9", 0);
        fault(x, " 0a<=1", 0);
        fault(x, "a", 0);
        fault(x, "-a=1", 0);
        fault(x, "0", 1);
        fault(x, "*", 1);
        fault(x, "0c<=1", 1);
        fault(x, "0A<=1", 1);
        fault(x, "0`<=1", 1);
        fault(x, "10a<=1", 1);
        fault(x, "~~", 1);
        fault(x, "~a", 2);
        fault(x, "~a 1", 2);
        fault(x, "0a5", 2);
        fault(x, "0a!=1", 2);
        fault(x, "0a<", 3);
        fault(x, "0a>", 3);
        fault(x, "0a=", 3);
        fault(x, "0a<1", 3);
        fault(x, "0a><", 3);
        fault(x, "0a<>1", 3);
        fault(x, "0a==1", 3);
        fault(x, "0a=<1", 3);
        fault(x, "0a=-1", 3);
        fault(x, "0a<=", 4);
        fault(x, "0a>= 1", 4);
        fault(x, "0a>=x", 4);
        fault(x, "0a=1 ", 4);
        fault(x, "0a<=1a", 5);
        fault(x, "0a<=1<", 5);
        fault(x, "0a=1234 ", 7);
        fault(x, "0a=12345", 7);
        fault(x, "0a<=12345", 8);
        fault(x, "*b>=00000", 8);
        fault(x, "*b>=000.", 7);
        fault(x, "*b>=9999999999999999", 8);
        fault(x, "*b>=9\u0660", 5);
        fault(x, "\u0660a>=9", 0);
        due.is("27: no rule came of them", x.count(4), 0);
        fault(Bench.of(2), "2a=1", 0);
        due.is("27: 2 of 3", Bench.rule(Bench.of(3), "2a=1"), 0);
        due.is("27: 4 of 5", Bench.rule(Bench.of(5), "4a=1"), 0);
        fault(Bench.of(5), "5a=1", 0);
    }

    /** What is allowed at each place of a rule, tried with every character up to 300. */
    private static void promise27FaultsOfAnyCharacter() {
        String[] allowed = {"012*~", "ab", "<>=", "=", "0123456789"};
        String rule = "0a<=5";
        for (int place = 0; place < 5; place++) {
            for (char c = 0; c < 300; c++) {
                String text = rule.substring(0, place) + c;
                if (allowed[place].indexOf(c) < 0) {
                    fault(new CutRepairer(), text + rule.substring(place + 1), place);
                } else if (place < 4) {
                    fault(new CutRepairer(), text, place + 1);
                }
            }
        }
    }

    private static void fault(CutRepairer x, String text, int fault) {
        due.is("27: fault of \"" + text + "\"", Bench.rule(x, text), -100 - fault);
    }

    private static void promise27Full() {
        CutRepairer x = new CutRepairer();
        Bench.type(x, "1a>=3");
        for (int r = 0; r < 12; r++) {
            due.is("27: rule " + r, x.addRule(), r);
        }
        due.is("27: the 13th", x.addRule(), FULL);
        due.is("27: twelve", x.count(4), 12);
        fault(x, "1a>=", 4);
        x.removeRule(11);
        due.is("27: a fault with room", x.addRule(), -104);
        due.is("27: room again", Bench.rule(x, "*b=1"), 11);
        due.is("27: full again", x.addRule(), FULL);
    }

    private static void promise28RemoveRule() {
        CutRepairer x = new CutRepairer();
        due.is("28: none there", x.removeRule(0), UNKNOWN);
        for (int k = 1; k <= 4; k++) {
            Bench.rule(x, "0a>=" + k);
        }
        for (int wrong : new int[] {-1, 4, MIN, MAX}) {
            due.is("28: rule " + wrong, x.removeRule(wrong), UNKNOWN);
        }
        due.is("28: all there", x.count(4), 4);
        due.is("28: the second", x.removeRule(1), 3);
        due.is("28: the first stays", x.rule(0, 3), 1);
        due.is("28: the third moves up", x.rule(1, 3), 3);
        due.is("28: the fourth moves up", x.rule(2, 3), 4);
        due.is("28: no fourth", x.rule(3, 3), UNKNOWN);
        due.is("28: the last", x.removeRule(2), 2);
        due.is("28: the first", x.removeRule(0), 1);
        due.is("28: one is left", x.rule(0, 3), 3);
        due.is("28: that one", x.removeRule(0), 0);
        due.is("28: nothing broken", x.broken(false), 0);
    }

    private static void promise29Rule() {
        CutRepairer x = Bench.of(5);
        Bench.rule(x, "4b>=120");
        Bench.rule(x, "~a=7");
        Bench.rule(x, "*a<=7");
        int[][] rules = {{4, 1, 1, 120}, {9, 0, 2, 7}, {8, 0, 0, 7}};
        for (int r = 0; r < 3; r++) {
            for (int what = 0; what < 4; what++) {
                due.is("29: rule(" + r + ", " + what + ")", x.rule(r, what), rules[r][what]);
            }
        }
        for (int wrong : new int[] {-1, 4, MIN, MAX}) {
            due.is("29: what " + wrong, x.rule(0, wrong), BAD_VALUE);
        }
        for (int wrong : new int[] {-1, 3, MIN, MAX}) {
            due.is("29: rule " + wrong, x.rule(wrong, 0), UNKNOWN);
            due.is("29: UNKNOWN before BAD_VALUE", x.rule(wrong, 9), UNKNOWN);
        }
    }

    private static void promise30BrokenInThePresentState() {
        CutRepairer x = new CutRepairer();
        due.is("30: no rules", x.broken(false), 0);
        x.setStock(0, 0, 20);
        x.setStock(1, 0, 5);
        x.setStock(2, 1, 8);
        x.send(0, 1, 0, 7);
        x.send(2, 0, 1, 3);
        String[] texts = {"0a<=13", "0a<=12", "0a>=13", "0a>=14", "0a=13", "0a=12", "*a=25", "*a<=24", "~a=7", "~a>=8",
            "*b=8", "~b<=2"};
        for (String text : texts) {
            Bench.rule(x, text);
        }
        due.is("30: a bit for each", x.broken(false), 0b101010101010);
        x.receive(1, 0);
        due.is("30: when it has come", x.broken(false), 0b101110101010);
        x.removeRule(0);
        due.is("30: the bits move down", x.broken(false), 0b10111010101);
        x.beginSnapshot(0);
        due.is("30: markers do not matter", x.broken(false), 0b10111010101);
    }

    private static void promise30BrokenAtTheCut() {
        CutRepairer x = new CutRepairer();
        x.setStock(0, 0, 20);
        x.send(0, 1, 0, 7);
        x.receive(1, 0);
        x.change(1, 0, 4);
        Bench.rule(x, "*a=20");
        Bench.rule(x, "~a=7");
        Bench.rule(x, "1a>=7");
        Bench.rule(x, "0a=20");
        due.is("30: at first", x.broken(true), 0b0110);
        x.setCut(0, 1);
        due.is("30: in transit", x.broken(true), 0b1100);
        x.setCut(1, 1);
        due.is("30: received", x.broken(true), 0b1010);
        x.setCut(1, 2);
        due.is("30: changed", x.broken(true), 0b1011);
        due.is("30: the present", x.broken(false), 0b1011);
        x.setCut(0, 0);
        due.is("30: not consistent", x.broken(true), NOT_POSSIBLE);
        due.is("30: the present still", x.broken(false), 0b1011);
    }
}
