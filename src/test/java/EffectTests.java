import java.util.ArrayList;
import java.util.List;

/**
 * What each call changes, and that it changes nothing else: on a bench that has something of everything, all that can
 * be asked is asked before and behind the call, and after restore(), too.
 */
public final class EffectTests extends Edges {
    private static final String NOTHING_ELSE = "Nothing is promised beyond the answers and state changes described";
    private static final Story BUSY = busy();
    // Process 2 has taken the last message in front of a marker.
    private static final Story AT_MARKER = BUSY.then(receive(2, 0));
    private static final Story COMPLETE = AT_MARKER.then(receive(2, 0), receive(1, 0), receive(1, 0), receive(0, 2),
        receive(1, 2), receive(2, 1), receive(2, 1));
    // Process 2 has received what process 1 has not sent yet.
    private static final Story ORPHAN = BUSY.then(receive(2, 1), setCut(2, 2));
    private static final Story NO_REPAIR = BUSY.ruled("0b>=1001");
    // No events, but messages, markers and something to restore.
    private static final Story QUIET = Story.of(setStock(0, 0, 50), setStock(1, 1, 40), send(0, 1, 0, 9),
        send(1, 2, 1, 5), setCut(0, 1), setCut(1, 1), beginSnapshot(2), apply(false), beginSnapshot(1))
        .ruled("0a>=48", "~b>=5").typing("1b<=3");
    private static final List<String> REPAIR = List.of("repairCost", "moved(", "outside(", "repairedStock(");
    private static final List<String> AT_CUT = List.of("count(6)", "cut(", "orphans", "stockAtCut(", "inTransit(",
        "broken(true)");
    private static final List<String> SYSTEM = List.of("count(1)", "count(2)", "count(3)", "count(5)", "count(7)",
        "eventsOf(", "stock(", "recorded(", "inChannel(", "event(", "clock(", "broken(false)");

    private EffectTests() {
    }

    public static void main(String[] args) {
        theStoriesAreWhatTheySay();
        questionsChangeNothing();
        errorsOfTheSystem();
        errorsOfSnapshotsAndCuts();
        errorsOfRulesAndCosts();
        errorsOfRepairs();
        effectsOfSystemCalls();
        effectsOfReceive();
        effectsOfSnapshots();
        effectsOnTheCut();
        effectsOfRules();
        effectsOfCosts();
        effectsOfApplyAndRestore();
        end();
    }

    /** The call succeeds, and only these questions (as their names begin) may be answered in another way then. */
    private static void changes(Story story, Call call, List<String> now) {
        changes(story, call, now, List.of());
    }

    private static void changes(Story story, Call call, List<String> now, List<String> restored) {
        run(story, call);
        nothing(call.name() + " changes nothing else", new Looks(story).differenceTo(story.then(call), now, restored));
    }

    private static List<String> all(List<String> some, String... more) {
        List<String> all = new ArrayList<>(some);
        all.addAll(List.of(more));
        return all;
    }

    private static List<String> all(List<String> some, List<String> more) {
        return all(some, more.toArray(new String[0]));
    }

    private static void theStoriesAreWhatTheySay() {
        sentence("The tests", "these states");
        run(BUSY, count(1).is(5), count(2).is(3), count(3).is(3), count(5).is(1), count(6).is(3), count(7).is(1),
            orphans().is(0), repairCost().is(4), receive(2, 1).is(5));
        run(AT_MARKER, inChannel(0, 2, 0, 0).is(2));
        run(COMPLETE, count(3).is(0), count(5).is(2), count(7).is(1), count(1).is(8));
        run(ORPHAN, orphans().is(1), count(7).is(1));
        run(NO_REPAIR, repairCost().is(NONE), count(7).is(1));
        run(QUIET, count(1).is(0), count(2).is(2), count(3).is(2), count(7).is(1), repairCost().is(700));
        run(BUSY.then(restore()), count(3).is(2), count(6).is(2), count(1).is(3));
    }

    private static void questionsChangeNothing() {
        sentence("Not promised", NOTHING_ELSE);
        List<Call> questions = new ArrayList<>(List.of(stock(0, 0), inChannel(0, 1, 0, 0), inChannel(0, 1, 1, 2),
            event(0, 3), clock(3, 1), order(0, 3), order(4, 0), eventsOf(1), recorded(0), recorded(2), cut(0),
            orphans(), stockAtCut(1, 0), inTransit(0, 1, 0, 1), inTransit(0, 1, -1, 0), rule(1, 3), broken(true),
            broken(false), repairCost(), moved(1, 0, 0), moved(0, 1, 1), outside(0, 0, false), outside(0, 1, true),
            repairedStock(1, 0)));
        for (int what = 0; what < 8; what++) {
            questions.add(count(what));
        }
        for (Story story : List.of(BUSY, COMPLETE, ORPHAN, NO_REPAIR, QUIET)) {
            Looks looks = new Looks(story);
            for (Call question : questions) {
                nothing(question.name() + " changes nothing", looks.differenceTo(story.then(question)));
            }
        }
    }

    // ---- errors

    private static void errorsOfTheSystem() {
        sentence("ERRORS", "A call that returns an error or NONE changes nothing.");
        refused(BUSY, reset(1).is(BAD_VALUE), reset(6).is(BAD_VALUE), setStock(0, 2, 5).is(UNKNOWN),
            setStock(0, 0, 1001).is(BAD_VALUE), setStock(0, 0, 5).is(NOT_NOW), change(3, 0, 5).is(UNKNOWN),
            change(0, 0, 0).is(BAD_VALUE), change(0, 1, -12).is(NOT_POSSIBLE), send(0, 0, 1, 5).is(UNKNOWN),
            send(0, 1, 1, 101).is(BAD_VALUE), send(0, 1, 1, 12).is(NOT_POSSIBLE), receive(0, 0).is(UNKNOWN),
            receive(0, 1).is(NONE), stock(0, 2).is(UNKNOWN), inChannel(0, 0, 0, 0).is(UNKNOWN),
            inChannel(0, 1, 0, 3).is(BAD_VALUE), inChannel(0, 1, 2, 0).is(NONE), event(5, 0).is(UNKNOWN),
            event(0, 6).is(BAD_VALUE), clock(0, 3).is(UNKNOWN), order(0, 5).is(UNKNOWN), count(8).is(BAD_VALUE),
            eventsOf(3).is(UNKNOWN));
        Story full = withEvents(BUSY, 100);
        refused(full, change(1, 1, 1).is(FULL), send(0, 1, 0, 1).is(FULL), receive(1, 0).is(FULL),
            receive(2, 1).is(FULL), receive(0, 1).is(NONE));
        refused(BUSY.times(5, send(0, 1, 0, 1)), send(0, 1, 0, 1).is(FULL), send(0, 1, 1, 11).is(FULL));
        refused(BUSY.times(10, change(2, 0, 100)), receive(2, 1).is(NOT_POSSIBLE), change(2, 0, 1).is(NOT_POSSIBLE));
        refused(QUIET, setStock(0, 3, 1).is(UNKNOWN), setStock(0, 0, -1).is(BAD_VALUE), event(0, 0).is(UNKNOWN));
    }

    private static void errorsOfSnapshotsAndCuts() {
        sentence("ERRORS", "A call that returns an error or NONE changes nothing.");
        refused(BUSY, beginSnapshot(3).is(UNKNOWN), beginSnapshot(2).is(NOT_NOW), takeSnapshot().is(NOT_NOW),
            recorded(3).is(UNKNOWN), recorded(2).is(NONE), setCut(3, 0).is(UNKNOWN), setCut(0, 2).is(BAD_VALUE),
            setCut(1, 4).is(BAD_VALUE), setCut(2, -1).is(BAD_VALUE), cut(3).is(UNKNOWN), stockAtCut(0, 2).is(UNKNOWN),
            inTransit(0, 0, 0, 0).is(UNKNOWN), inTransit(0, 1, 0, 2).is(BAD_VALUE), inTransit(0, 1, 1, 0).is(NONE));
        refused(COMPLETE, abandonSnapshot().is(NOT_NOW), beginSnapshot(-1).is(UNKNOWN));
        refused(ORPHAN, inTransit(0, 1, 0, 0).is(NOT_POSSIBLE), setCut(2, 3).is(BAD_VALUE));
    }

    private static void errorsOfRulesAndCosts() {
        sentence("ERRORS", "A call that returns an error or NONE changes nothing.");
        refused(BUSY.typing("12345678901234567890"), type('a').is(FULL), addRule().is(-101));
        refused(BUSY.typing("3b>=7"), addRule().is(-100));
        refused(BUSY.typing("2b>=7 "), addRule().is(-105));
        refused(BUSY.ruled("0a>=1", "0a>=2", "0a>=3", "0a>=4", "0a>=5", "0a>=6", "0a>=7", "0a>=8", "0a>=9"),
            addRule().is(FULL), removeRule(12).is(UNKNOWN));
        refused(BUSY, removeRule(3).is(UNKNOWN), rule(3, 0).is(UNKNOWN), rule(2, 4).is(BAD_VALUE),
            setMoveCost(1, 1, 5).is(UNKNOWN), setMoveCost(1, 2, 0).is(BAD_VALUE),
            setOutsideCosts(0, 5).is(BAD_VALUE), setOutsideCosts(5, 1001).is(BAD_VALUE));
        refused(ORPHAN, broken(true).is(NOT_POSSIBLE));
    }

    private static void errorsOfRepairs() {
        sentence("ERRORS", "A call that returns an error or NONE changes nothing.");
        refused(BUSY, moved(0, 0, 0).is(UNKNOWN), outside(0, 2, true).is(UNKNOWN), repairedStock(3, 0).is(UNKNOWN));
        refused(ORPHAN, repairCost().is(NOT_POSSIBLE), moved(0, 1, 0).is(NOT_POSSIBLE),
            outside(0, 0, true).is(NOT_POSSIBLE), repairedStock(0, 0).is(NOT_POSSIBLE), apply(false).is(NOT_POSSIBLE),
            apply(true).is(NOT_POSSIBLE));
        refused(NO_REPAIR, repairCost().is(NONE), moved(0, 1, 0).is(NONE), outside(0, 0, true).is(NONE),
            repairedStock(0, 0).is(NONE), apply(false).is(NONE), apply(true).is(NONE));
        refused(BUSY.then(restore()), restore().is(NONE));
    }

    // ---- effects

    private static void effectsOfSystemCalls() {
        sentence("promise 3", "Sets a stock.");
        changes(QUIET, setStock(0, 0, 33).is(41), all(REPAIR, "stock(0, 0)", "stockAtCut(0, 0)", "broken("));
        changes(QUIET, setStock(2, 1, 9).is(0), all(REPAIR, "stock(2, 1)", "stockAtCut(2, 1)", "broken("));
        sentence("promise 4", "Lets a change happen.");
        changes(BUSY, change(1, 0, -5).is(5), List.of("count(1)", "eventsOf(1)", "stock(1, 0)", "event(5, ",
            "broken(false)"));
        changes(COMPLETE, change(0, 1, 7).is(8), List.of("count(1)", "eventsOf(0)", "stock(0, 1)", "event(8, ",
            "broken(false)"));
        sentence("promise 5", "Lets a send happen.");
        changes(BUSY, send(0, 2, 0, 6).is(5), List.of("count(1)", "count(2)", "eventsOf(0)", "stock(0, 0)",
            "event(5, ", "inChannel(0, 2, ", "broken(false)"));
        changes(QUIET, send(1, 0, 1, 6).is(0), List.of("count(1)", "count(2)", "eventsOf(1)", "stock(1, 1)",
            "event(0, ", "inChannel(1, 0, ", "broken(false)"));
    }

    private static void effectsOfReceive() {
        sentence("promise 6", "Takes the message ... at the front of a channel; with a message, this is a receive.");
        changes(BUSY, receive(1, 0).is(5), List.of("count(1)", "count(2)", "eventsOf(1)", "stock(1, 1)", "event(5, ",
            "event(4, 5)", "inChannel(0, 1, ", "broken(false)"));
        changes(BUSY, receive(2, 0).is(5), List.of("count(1)", "count(2)", "eventsOf(2)", "stock(2, 1)", "event(5, ",
            "inChannel(0, 2, ", "broken(false)"));
        sentence("promise 6", "Takes ... the marker at the front of a channel");
        changes(AT_MARKER, receive(2, 0).is(MARKER), List.of("count(3)", "recorded(2)", "inChannel(0, 2, ",
            "inChannel(2, 0, ", "inChannel(2, 1, "));
        Story recorded = AT_MARKER.then(receive(2, 0));
        changes(recorded, receive(0, 2).is(MARKER), List.of("count(3)", "inChannel(2, 0, "));
        Story last = recorded.then(receive(0, 2), receive(1, 2), receive(1, 0), receive(1, 0), receive(2, 1));
        changes(last, receive(2, 1).is(MARKER), List.of("count(3)", "count(5)", "inChannel(1, 2, "));
    }

    private static void effectsOfSnapshots() {
        sentence("promise 14", "Begins a snapshot.");
        changes(COMPLETE, beginSnapshot(0).is(2), List.of("count(3)", "count(5)", "recorded(", "inChannel(0, "));
        sentence("promise 15", "all markers vanish, and it is as if none had been begun.");
        changes(BUSY, abandonSnapshot().is(3), List.of("count(3)", "count(5)", "recorded(", "inChannel(0, 2, ",
            "inChannel(0, 1, ", "inChannel(1, 2, "));
        sentence("promise 17", "Makes the numbers that were recorded the cut.");
        changes(COMPLETE, takeSnapshot().is(6), all(REPAIR, AT_CUT));
    }

    private static void effectsOnTheCut() {
        sentence("promise 18", "Sets the number of events of a process in the cut.");
        changes(BUSY, setCut(1, 3).is(2), all(REPAIR, "count(6)", "cut(1)", "stockAtCut(1, 0)", "inTransit(1, 2, ",
            "broken(true)"));
        sentence("promise 21", "Makes the cut the greatest consistent cut all of whose events are in it.");
        changes(ORPHAN, lowerCut().is(1), all(REPAIR, AT_CUT));
        changes(BUSY, lowerCut().is(0), List.of());
        sentence("promise 22", "Makes the cut the least consistent cut that has all of its events.");
        changes(ORPHAN, raiseCut().is(1), all(REPAIR, AT_CUT));
        changes(BUSY, raiseCut().is(0), List.of());
    }

    private static void effectsOfRules() {
        sentence("promise 25", "Appends a character to the text.");
        changes(BUSY, type('1').is(6), List.of("rule(3, 3)", "clearText()"));
        sentence("promise 26", "Empties the text.");
        changes(BUSY, clearText().is(5), List.of("addRule()", "rule(3, ", "clearText()"));
        sentence("promise 27", "Adds the rule that is written in the text, which stays.");
        List<String> ruled = all(REPAIR, "count(4)", "broken(");
        changes(BUSY, addRule().is(3), all(ruled, "addRule()", "rule(3, ", "rule(4, "), ruled);
        sentence("promise 28", "Removes a rule. The numbers of those behind it become less by 1.");
        changes(BUSY, removeRule(1).is(2), all(ruled, "addRule()", "rule(1, ", "rule(2, ", "rule(3, "), ruled);
    }

    private static void effectsOfCosts() {
        sentence("promise 31", "Sets the cost of moving a unit.");
        changes(BUSY, setMoveCost(0, 1, 8).is(3), all(REPAIR, "setMoveCost(0, 1, "), REPAIR);
        changes(BUSY, setMoveCost(0, 1, 3).is(3), List.of());
        sentence("promise 32", "Sets the costs of granting and of burning a unit.");
        changes(BUSY, setOutsideCosts(8, 9).is(1), all(REPAIR, "setOutsideCosts("), REPAIR);
        changes(BUSY, setOutsideCosts(7, 9).is(0), List.of());
    }

    private static void effectsOfApplyAndRestore() {
        sentence("REPLAY", "When a repair is applied, the system begins anew");
        List<String> system = all(SYSTEM, all(REPAIR, AT_CUT));
        for (Story story : List.of(BUSY, COMPLETE, QUIET)) {
            nothing("apply(false) leaves n, rules, costs and text",
                new Looks(story).differenceTo(story.then(apply(false)), system, system));
            sentence("promise 38", "Rules, costs and the text stay.");
            nothing("restore() leaves n, rules, costs and text",
                new Looks(story).differenceTo(story.then(restore()), system, system));
            sentence("promise 38", "Restores the system as it was before the latest apply()");
            same("apply(true) and restore() leave nothing behind", story.then(restore()),
                story.then(restore(), apply(true), restore()));
            nothing("restore() brings all back but the older system to restore",
                new Looks(story).differenceTo(story.then(apply(true), restore()), List.of("count(7)"), system));
        }
    }
}
