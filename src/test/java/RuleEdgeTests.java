/** The boundary cases of the section RULES and of the promises 25 to 30, sentence by sentence. */
public final class RuleEdgeTests extends Edges {
    private static final Story NEW = Story.of();
    private static final Story BUSY = busy();

    private RuleEdgeTests() {
    }

    public static void main(String[] args) {
        upToTwelveRules();
        numberFrom0To9999();
        keptUpToTheNumber();
        totalAndTransit();
        presentStateCountsAllMessages();
        textOf20Characters();
        subjects();
        stocks();
        relations();
        oneToFourDigits();
        faultOfAProcessThatDoesNotExist();
        faultBehindACompleteRule();
        faultOfATextThatEndsTooEarly();
        typeFull();
        typeAnyCharacter();
        clearTextFrom0To20();
        addRuleFault();
        addRuleFull();
        removeRuleUnknown();
        removeRuleMovesThoseBehind();
        ruleUnknown();
        ruleWhat();
        brokenBits();
        brokenNotPossible();
        end();
    }

    private static void taken(Story story, String text, int... properties) {
        Story typed = story.typing(text);
        int number = story.played().count(4);
        run(typed, addRule().is(number), count(4).is(number + 1), rule(number, 0).is(properties[0]),
            rule(number, 1).is(properties[1]), rule(number, 2).is(properties[2]), rule(number, 3).is(properties[3]));
    }

    private static void fault(Story story, String text, int fault) {
        refused(story.typing(text), addRule().is(-100 - fault));
    }

    // ---- RULES

    private static void upToTwelveRules() {
        sentence("RULES", "There are up to 12 rules, numbered from 0.");
        Story eleven = NEW.typing("1a<=5").times(11, addRule());
        run(NEW.typing("1a<=5"), count(4).is(0), addRule().is(0), addRule().is(1));
        run(eleven, addRule().is(11), count(4).is(12), rule(11, 3).is(5), rule(12, 3).is(UNKNOWN), addRule().is(FULL));
        refused(eleven, rule(11, 3).is(UNKNOWN), removeRule(11).is(UNKNOWN));
        refused(eleven.then(addRule()), addRule().is(FULL), rule(12, 3).is(UNKNOWN), removeRule(12).is(UNKNOWN));
    }

    private static void numberFrom0To9999() {
        sentence("RULES", "a number from 0 to 9999");
        taken(NEW, "0a<=0", 0, 0, 0, 0);
        taken(NEW, "0a<=9999", 0, 0, 0, 9999);
        taken(NEW, "0a=0000", 0, 0, 2, 0);
        taken(NEW, "0a=9999", 0, 0, 2, 9999);
        fault(NEW, "0a<=10000", 8);
        fault(NEW, "0a=10000", 7);
        fault(NEW, "0a<=-1", 4);
        fault(NEW, "0a=-1", 3);
    }

    private static void keptUpToTheNumber() {
        sentence("RULES",
            "A state keeps the rule if the value of the subject is at most, at least, or equal to the number");
        Story stocks = Story.of(setStock(0, 0, 50), setStock(1, 1, 1000)).ruled("0a<=50", "0a<=49", "0a>=50", "0a>=51",
            "0a=50", "0a=49", "0a=51", "2b<=0", "2b>=1", "1b>=1000", "1b>=1001", "1b<=999");
        run(stocks, broken(false).is(0b110101101010), broken(true).is(0b110101101010));
        Story extremes = NEW.ruled("0a>=0", "0a<=0", "*b>=0", "*b=0", "~a>=0", "~a=0", "~b<=0", "*a<=9999", "~a<=9999",
            "0b<=9999", "*a>=1", "~b>=1");
        run(extremes, broken(false).is(0b110000000000), broken(true).is(0b110000000000));
    }

    private static void totalAndTransit() {
        sentence("RULES",
            "the total (the sum of the stock of all processes and of the amounts of all messages ... in transit)");
        Story most = Story.of(reset(5));
        for (int p = 0; p < 5; p++) {
            most = most.then(setStock(p, 0, 1000), setStock(p, 1, 7));
        }
        most = most.then(send(4, 0, 0, 100), send(4, 0, 1, 3));
        run(most.ruled("*a=5000", "*a<=4999", "*a>=5001", "*b=35", "*b<=34", "*b>=36"), broken(false).is(0b110110),
            broken(true).is(0b110110), setCut(4, 2).is(0), broken(true).is(0b110110));
        sentence("RULES", "or the transit (the sum of these amounts alone)");
        run(most.ruled("~a=100", "~a<=99", "~a>=101", "~b=3", "~b<=2", "~b>=4"), broken(false).is(0b110110),
            broken(true).is(0b101101), setCut(4, 1).is(0), broken(true).is(0b101110), setCut(4, 2).is(1),
            broken(true).is(0b110110));
    }

    private static void presentStateCountsAllMessages() {
        sentence("RULES", "The present state has the present stocks, and all messages in channels are in transit.");
        Story old = Story.of(setStock(0, 0, 50), send(0, 1, 0, 5), setCut(0, 1), apply(false), send(0, 1, 0, 6))
            .ruled("~a=11", "~a=5", "*a=50", "0a=39");
        run(old, broken(false).is(0b0010), broken(true).is(0b1001), receive(1, 0).is(1), broken(false).is(0b0011));
        run(Story.of(beginSnapshot(0)).ruled("~a=0", "~b=0", "*a=0", "*b=0"), broken(false).is(0));
    }

    private static void textOf20Characters() {
        sentence("RULES", "There is a text of at most 20 characters, empty at first.");
        run(NEW, clearText().is(0));
        Story nineteen = NEW.typing("1234567890123456789");
        run(nineteen, type('0').is(20), type('1').is(FULL), clearText().is(20));
        refused(nineteen.then(type('0')), type('1').is(FULL), addRule().is(-101));
        refused(NEW, addRule().is(-100));
    }

    private static void subjects() {
        sentence("RULES", "The subject is a digit (a process), \"*\" (total) or \"~\" (transit)");
        taken(NEW, "*a=1", 8, 0, 2, 1);
        taken(NEW, "~a=1", 9, 0, 2, 1);
        taken(NEW, "0a=1", 0, 0, 2, 1);
        taken(NEW, "2a=1", 2, 0, 2, 1);
        // The neighbours of these signs, and the numbers that rule() tells for them.
        for (char wrong : new char[] {'/', ':', ')', '+', '}', 127, '8', '9', ' ', 'a', 0, Character.MAX_VALUE}) {
            fault(NEW, wrong + "a=1", 0);
        }
    }

    private static void stocks() {
        sentence("RULES", "the stock is \"a\" or \"b\"");
        taken(NEW, "1a=1", 1, 0, 2, 1);
        taken(NEW, "1b=1", 1, 1, 2, 1);
        for (char wrong : new char[] {'`', 'c', 'A', 'B', '0', '1', '=', ' ', 0, (char) ('a' + 256)}) {
            fault(NEW, "1" + wrong + "=1", 1);
        }
    }

    private static void relations() {
        sentence("RULES", "the relation is \"<=\", \">=\" or \"=\"");
        taken(NEW, "1a<=1", 1, 0, 0, 1);
        taken(NEW, "1a>=1", 1, 0, 1, 1);
        taken(NEW, "1a=1", 1, 0, 2, 1);
        for (char wrong : new char[] {';', '?', '!', '1', 'a', ' ', 0}) {
            fault(NEW, "1a" + wrong + "=1", 2);
        }
        for (char wrong : new char[] {'<', '>', '1', ' ', 0}) {
            fault(NEW, "1a<" + wrong + "1", 3);
            fault(NEW, "1a>" + wrong + "1", 3);
        }
        fault(NEW, "1a==1", 3);
        fault(NEW, "1a=<1", 3);
        fault(NEW, "1a=>1", 3);
        fault(NEW, "1a<==1", 4);
        fault(NEW, "1a>==1", 4);
    }

    private static void oneToFourDigits() {
        sentence("RULES", "the number has 1 to 4 digits.");
        int[] numbers = {5, 56, 567, 5678};
        for (int digits = 1; digits <= 4; digits++) {
            taken(NEW, "1a=" + numbers[digits - 1], 1, 0, 2, numbers[digits - 1]);
            taken(NEW, "1a>=" + numbers[digits - 1], 1, 0, 1, numbers[digits - 1]);
        }
        taken(NEW, "1a=0007", 1, 0, 2, 7);
        fault(NEW, "1a=", 3);
        fault(NEW, "1a>=", 4);
        fault(NEW, "1a=56789", 7);
        fault(NEW, "1a>=56789", 8);
        fault(NEW, "1a=00007", 7);
        for (char wrong : new char[] {'/', ':', 'a', ' ', '=', 0, (char) 0x660}) {
            fault(NEW, "1a=" + wrong, 3);
            fault(NEW, "1a<=" + wrong, 4);
        }
    }

    private static void faultOfAProcessThatDoesNotExist() {
        sentence("RULES", "not allowed at its place (also the digit of a process that does not exist, ...)");
        for (int n = 2; n <= 5; n++) {
            Story fresh = Story.of(reset(n));
            taken(fresh, "0a=1", 0, 0, 2, 1);
            taken(fresh, (n - 1) + "a=1", n - 1, 0, 2, 1);
            for (int wrong = n; wrong <= 9; wrong++) {
                fault(fresh, wrong + "a=1", 0);
            }
        }
    }

    private static void faultBehindACompleteRule() {
        sentence("RULES", "and any character behind a complete rule that is not a further digit of the number");
        taken(NEW, "1a=12", 1, 0, 2, 12);
        for (char wrong : new char[] {'/', ':', 'a', ' ', '=', '<', 0, Character.MAX_VALUE}) {
            fault(NEW, "1a=1" + wrong, 4);
            fault(NEW, "1a>=1" + wrong, 5);
            fault(NEW, "1a=1234" + wrong, 7);
            fault(NEW, "1a>=1234" + wrong, 8);
            fault(NEW, "1a=1" + wrong + "2", 4);
        }
        fault(NEW, "1a=1 234567890123456", 4);
        fault(NEW, "1a=12345678901234567", 7);
    }

    private static void faultOfATextThatEndsTooEarly() {
        sentence("RULES", "or its length if it ends too early.");
        for (String rule : new String[] {"1a<=5", "*b>=5", "~a=5"}) {
            for (int length = 0; length < rule.length(); length++) {
                fault(NEW, rule.substring(0, length), length);
            }
            run(NEW.typing(rule), addRule().is(0));
        }
        // What is behind the end of a text that was cleared is not there any more.
        fault(NEW.typing("1a<=5"), "1a<", 3);
    }

    // ---- promises 25 and 26

    private static void typeFull() {
        sentence("promise 25", "Returns the length of the text then; FULL if it has 20 characters.");
        run(NEW, type('x').is(1), type('x').is(2));
        Story nineteen = BUSY.typing("1a<=567890123456789");
        run(nineteen, type('x').is(20), type('x').is(FULL), clearText().is(20), type('x').is(1));
        refused(nineteen.then(type('x')), type('0').is(FULL), type((char) 0).is(FULL),
            type(Character.MAX_VALUE).is(FULL));
    }

    private static void typeAnyCharacter() {
        sentence("promise 25", "character: any character");
        for (char any : new char[] {0, ' ', 127, 128, 255, 256, Character.MAX_VALUE}) {
            run(NEW, type(any).is(1), addRule().is(-100), type(any).is(2), clearText().is(2));
        }
    }

    private static void clearTextFrom0To20() {
        sentence("promise 26", "Empties the text. Returns the length that it had.");
        Story longer = NEW;
        for (int length = 0; length <= 20; length++) {
            run(longer, clearText().is(length), clearText().is(0), addRule().is(-100), type('1').is(1));
            longer = longer.then(type('1'));
        }
    }

    // ---- promises 27 and 28

    private static void addRuleFault() {
        sentence("promise 27", "-100 minus the fault if the text has one");
        fault(BUSY, "", 0);
        fault(BUSY, "3a=1", 0);
        fault(BUSY, "2b>=99999", 8);
        sentence("promise 27", "Adds the rule that is written in the text, which stays.");
        run(NEW.typing("1a=12"), addRule().is(0), type('3').is(6), addRule().is(1), rule(0, 3).is(12),
            rule(1, 3).is(123), clearText().is(6));
    }

    private static void addRuleFull() {
        sentence("promise 27", "FULL if there are 12 rules.");
        Story eleven = BUSY.typing("*a>=1").times(8, addRule());
        run(eleven, count(4).is(11), addRule().is(11), addRule().is(FULL), removeRule(0).is(11), addRule().is(11));
        Story twelve = eleven.then(addRule());
        refused(twelve, addRule().is(FULL));
        // A fault comes first.
        fault(twelve, "", 0);
        fault(twelve, "*a>=", 4);
        fault(twelve, "*a>=12345", 8);
    }

    private static void removeRuleUnknown() {
        sentence("promise 28", "rule: the rule. Returns the number of rules then; UNKNOWN.");
        refused(NEW, removeRule(0).is(UNKNOWN), removeRule(-1).is(UNKNOWN));
        for (int wrong : new int[] {-1, 3, 12, MIN, MAX}) {
            refused(BUSY, removeRule(wrong).is(UNKNOWN));
        }
        run(BUSY, removeRule(2).is(2), removeRule(2).is(UNKNOWN), removeRule(0).is(1), removeRule(0).is(0),
            removeRule(0).is(UNKNOWN));
        refused(BUSY.then(reset(3)), removeRule(0).is(UNKNOWN));
    }

    private static void removeRuleMovesThoseBehind() {
        sentence("promise 28", "The numbers of those behind it become less by 1.");
        Story twelve = NEW;
        for (int k = 0; k < 12; k++) {
            String relation = new String[] {"<=", ">=", "="}[k % 3];
            twelve = twelve.ruled("012*~".charAt(k % 5) + (k % 2 == 0 ? "a" : "b") + relation + k);
        }
        int[] subjects = {0, 1, 2, 8, 9};
        for (int gone : new int[] {0, 1, 10, 11}) {
            Story eleven = twelve.then(removeRule(gone).is(11));
            for (int k = 0; k < 11; k++) {
                int old = k < gone ? k : k + 1;
                run(eleven, rule(k, 0).is(subjects[old % 5]), rule(k, 1).is(old % 2), rule(k, 2).is(old % 3),
                    rule(k, 3).is(old));
            }
            refused(eleven, rule(11, 3).is(UNKNOWN), removeRule(11).is(UNKNOWN));
        }
    }

    // ---- promises 29 and 30

    private static void ruleUnknown() {
        sentence("promise 29", "Returns the property; UNKNOWN; BAD_VALUE.");
        refused(NEW, rule(0, 0).is(UNKNOWN), rule(0, 4).is(UNKNOWN));
        for (int wrong : new int[] {-1, 3, 12, MIN, MAX}) {
            refused(BUSY, rule(wrong, 0).is(UNKNOWN), rule(wrong, -1).is(UNKNOWN), rule(wrong, 4).is(UNKNOWN));
        }
        run(BUSY, rule(0, 0).is(1), rule(2, 0).is(9));
    }

    private static void ruleWhat() {
        sentence("promise 29",
            "what: 0 for the subject (a process, 8 for the total, 9 for the transit), ... 3 for the number");
        int[][] due = {{1, 0, 1, 48}, {8, 1, 0, 50}, {9, 1, 2, 9}};
        for (int r = 0; r < 3; r++) {
            for (int what = 0; what < 4; what++) {
                run(BUSY, rule(r, what).is(due[r][what]));
            }
            for (int wrong : new int[] {-1, 4, MIN, MAX}) {
                refused(BUSY, rule(r, wrong).is(BAD_VALUE));
            }
        }
    }

    private static void brokenBits() {
        sentence("promise 30", "Returns the rules, as a bit set (bit k for rule k)");
        run(NEW, broken(false).is(0), broken(true).is(0));
        Story all = NEW.typing("0a>=1").times(12, addRule());
        run(all, broken(false).is(4095), broken(true).is(4095), change(0, 0, 1).is(0), broken(false).is(0),
            broken(true).is(4095), setCut(0, 1).is(0), broken(true).is(0));
        run(NEW.typing("0a>=0").times(11, addRule()).ruled("0a>=1"), broken(false).is(2048), removeRule(0).is(11),
            broken(false).is(1024));
        run(NEW.ruled("0a>=1").typing("0a>=0").times(11, addRule()), broken(true).is(1), removeRule(0).is(11),
            broken(true).is(0));
    }

    private static void brokenNotPossible() {
        sentence("promise 30", "NOT_POSSIBLE for the cut if it is not consistent.");
        Story orphan = Story.of(setStock(0, 0, 9), send(0, 1, 0, 9), receive(1, 0), setCut(1, 1));
        refused(orphan, broken(true).is(NOT_POSSIBLE));
        run(orphan, broken(false).is(0));
        Story ruled = orphan.ruled("0a>=1", "1a>=9");
        refused(ruled, broken(true).is(NOT_POSSIBLE));
        run(ruled, broken(false).is(1), setCut(0, 1).is(0), broken(true).is(1), setCut(0, 0).is(1), setCut(1, 0).is(1),
            broken(true).is(2));
    }
}
