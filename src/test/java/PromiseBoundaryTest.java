import java.util.ArrayList;
import java.util.List;

/**
 * The boundary cases that the document's promises name, each sentence by its own words: at the bound, one below and one
 * above it, the least and the greatest int, and that a refused call changes nothing.
 */
public final class PromiseBoundaryTest {
    private static final long NO_SUCH = Long.MIN_VALUE;
    private static final Due DUE = new Due();

    private static final Run NEW = Run.none();
    private static final Run BARE = Run.of("array steps 1;");
    /** WEIGHTS are 1/2 each, POWERS (1 + cos) / 2: 1, (2 + r)/4, 3/4, 1/2, 1/4, (2 - r)/4, 0 and back. */
    private static final Run PAIR = Run.of("array steps 10;element 0;element 1;look 0;deaf 6;");
    /** PAIR the other way round: what is around 6 there is around 0 here. */
    private static final Run ROUND = Run.of("array steps 10;element 0;element 1;look 6;deaf 0;");
    /** WEIGHTS 1/2, 0, 1/2: the middle one is spared. */
    private static final Run THREE = Run.of("array steps 6;element 0;element 1;element 2;look 0;deaf 3;deaf 9;");
    /** 1, 5, 9 are heard by 1, 3, 7, 11 not at all, others by 1/2. */
    private static final Run TWINNED = Run.of("array steps 4;element 0;element 3;look 1;");
    /** Five ELEMENTS, five WISHES: all is full. */
    private static final Run TIGHT =
        Run.of("array steps 9;element 0;element 1;element 2;element 3;element 4;look 0;deaf 1;deaf 2;deaf 4;deaf 5;");
    /** One ELEMENT hears all alike. */
    private static final Run ONE = Run.of("array steps 3;element 5;look 0;");
    private static final Run BROKEN = Run.of("array steps 3;broken 0;broken 11;look 2;");
    private static final Run OVER = Run.of("array steps 3;element 0;look 1;deaf 2;");
    private static final Run LOOKLESS = Run.of("array steps 3;element 0;element 1;deaf 2;");
    /** There were TRUE WEIGHTS, and they were asked for: nothing of them is left. */
    private static final Run NO_MORE = PAIR.then("farthest()", "polish(1, 0)", "share(1, 0)", "breaks(0)");
    /** Without TRUE WEIGHTS, each for another reason. */
    private static final Run[] UNSOLVED = {NEW, BARE, BROKEN, OVER, LOOKLESS, NO_MORE};
    /** Questions whose answers must not hold any longer than the array is as it is. */
    private static final String[] QUESTIONS = {"solved()", "share(1, 0)", "farthest()", "polish(3, 0)", "looks()",
        "frail(1)", "sealed(1, 3, 0)", "placed(3, 1)", "better(0)", "nearest(0)", "weakest()"};
    /** OUT and the TAPE hold something, and one of three ELEMENTS is BROKEN. */
    private static final Run MIXED = Run.of("array steps 6;element 2;broken 4;element 11;look 3;deaf 8;")
        .then("tell(2)").fed("array steps 77;look 7;");

    public static void main(String[] args) {
        promises1To3();
        promises4And5();
        promises6To9();
        promises10To15();
        promises16And17();
        promise18();
        promise19();
        promises20And21();
        promises22And23();
        promises24To26();
        promises27And28();
        promises29And30();
        promises31And32();
        promises33And34();
        promises35To38();
        promises39And40();
        promise41();
        promise42();
        promises43And44();
        promises45And46();
        promise47();
        promise48();
        promise49();
        promise50();
        promise51();
        promises52And53();
        promises54And55();
        promise56();
        promise57();
        promise58();
        promises59And60();
        for (int i = 1; i <= 60; i++) {
            DUE.requireEdgesOf("Promise " + i);
        }
        DUE.finish();
    }

    /** Calls with a number that is just out of its bounds, or far: it stands for ? in the pattern. */
    private static String[] beyond(String pattern, int least, int most) {
        String[] wrong = {Integer.toString(least - 1), Integer.toString(most + 1), "MIN", "MAX"};
        for (int i = 0; i < wrong.length; i++) {
            wrong[i] = pattern.replace("?", wrong[i]);
        }
        return wrong;
    }

    /** above / below out of 0 .. 99 by 1 .. 99; they stand for ? in the pattern. */
    private static String[] fractionsBeyond(String pattern) {
        List<String> all = new ArrayList<>();
        for (String below : new String[] {"1", "99"}) {
            all.addAll(List.of(beyond(pattern.replace("?", "?, " + below), 0, 99)));
        }
        for (String above : new String[] {"0", "99"}) {
            all.addAll(List.of(beyond(pattern.replace("?", above + ", ?"), 1, 99)));
        }
        return all.toArray(new String[0]);
    }

    private static void unsolved(Due.Sentence sentence, long answer, String... calls) {
        for (Run run : UNSOLVED) {
            sentence.refuses(run, answer, calls);
        }
    }

    private static void promises1To3() {
        Due.Sentence one = DUE.promise(1, "No ARRAY: without ELEMENTS and WISHES, STEPS 0 (twins() are all then, sets()"
            + " 1, placed() has none).");
        one.tells(NEW, "count(what)", 0, 0, 0, -1, 0, 0, 0, 0, 0, -1);
        one.answers(NEW, "element(0, 0)", -2, "wish(0, 0)", -2, "sets()", 1, "rank()", 0, "solved()", 0);
        for (int k = 0; k < 12; k++) {
            one.answers(NEW, "twins(" + k + ")", 4095);
        }
        for (int n = 1; n <= 5; n++) {
            one.answers(NEW, "placed(" + n + ", 0)", 0, "placed(" + n + ", 1)", -1);
        }
        one.refuses(NEW, -2, "breaks(0)", "mends(0)", "moves(0, 0)", "look(0)", "deaf(0)", "hear(0)", "steps(1)");

        Due.Sentence come = DUE.promise(2, "Twenty bytes come behind the TAPE, four of each number, the highest first:"
            + " how many it has");
        // the TAPE is full, and its last TOKEN ends with it: a number, a word, a blank, the sign
        come.answers(NEW.fed("array steps " + "0".repeat(288)), "array()", -4, "fault(0)", 2, "fault(1)", 12);
        come.answers(NEW.fed("array steps " + "0".repeat(287) + "9"), "array()", -4, "fault(0)", 1, "fault(1)", 300);
        come.answers(NEW.fed("array " + "s".repeat(294)), "array()", -4, "fault(0)", 1, "fault(1)", 6);
        come.answers(NEW.fed(" ".repeat(295) + "array"), "array()", -4, "fault(0)", 1, "fault(1)", 300);
        come.answers(NEW.fed(" ".repeat(286) + "array steps 7;"), "array()", 1, "count(2)", 7);
        come.answers(NEW.fed("array steps 7;" + "\n".repeat(286)), "array()", 1, "count(2)", 7);
        come.answers(NEW, "feed(MIN, MAX, -1, 0, 1)", 20, "feed(0, 0, 0, 0, 0)", 40, "count(7)", 40);
        // all bytes are blanks but one, which is at fault: its place is told
        for (int octet : new int[] {0, 127, 128, 255}) {
            for (int at = 0; at < 20; at++) {
                String text = " ".repeat(at) + (char) octet + " ".repeat(19 - at);
                come.answers(NEW.fed(text), "array()", -4, "fault(1)", at);
                come.answers(NEW.fed(" ".repeat(20)).fed(text), "array()", -4, "fault(1)", 20 + at);
            }
        }
        Due.Sentence full = DUE.promise(2, "NONE, and none come, if it would have more than 300.");
        Run most = NEW.times(14, "feed(MIN, 1, 2, 3, MAX)");
        full.answers(most, "count(7)", 280, "feed(1, 2, 3, 4, 5)", 300, "count(7)", 300, "feed(1, 2, 3, 4, 5)", -1);
        full.refuses(most.then("feed(0, 0, 0, 0, 0)"), -1, "feed(0, 0, 0, 0, 0)", "feed(MIN, MIN, MAX, MAX, -1)");
        String text = "array steps 7;" + " ".repeat(250) + "look 3;deaf 4;";
        full.answers(NEW.fed(text + "  "), "count(7)", 280, "feed(0, 0, 0, 0, 0)", 300);
        full.refuses(NEW.fed(text + "   "), -1, "feed(0, 0, 0, 0, 0)");
        full.answers(NEW.fed(text + "   ").then("feed(0, 0, 0, 0, 0)"), "count(7)", 281, "array()", 3);

        Due.Sentence first = DUE.promise(3, "The TAPE has its first n bytes alone: n");
        Run fed = NEW.fed("array steps 7;look 3;look 4;#");
        first.answers(fed, "end(29)", 29, "end(28)", 28, "end(21)", 21, "count(7)", 21, "array()", 2, "count(3)", 3);
        first.answers(fed, "end(0)", 0, "count(7)", 0, "array()", 0);
        first.answers(NEW, "end(0)", 0);
        // bytes behind are gone, though they would go on with the last number, the last word, the last LINE
        first.answers(NEW.fed("array steps 37;").then("end(13)"), "array()", -4, "fault(0)", 1, "fault(1)", 13);
        first.answers(NEW.fed("array steps 3;look 1;").then("end(17)"), "array()", -4, "fault(0)", 1, "fault(1)", 14);
        first.answers(NEW.fed("array steps 3;look 1;").then("end(18)"), "array()", -4, "fault(0)", 1, "fault(1)", 18);
        first.answers(NEW.fed("array steps 3;look 1;").then("end(20)"), "array()", -4, "fault(0)", 1, "fault(1)", 20);
        first.answers(NEW.fed("array steps 37;").then("end(13)").fed("9;"), "array()", 1, "count(2)", 39);
        first.answers(fed.then("end(14)").fed("deaf 4;"), "count(7)", 21, "array()", 2, "count(4)", 16, "count(3)", -1);
        first.answers(most.then("feed(0, 0, 0, 0, 0)"), "end(300)", 300, "end(299)", 299);
        Due.Sentence less = DUE.promise(3, "NONE, and nothing happens, if it has not so many, or n is below 0.");
        less.refuses(NEW, -1, beyond("end(?)", 0, 0));
        less.refuses(fed, -1, beyond("end(?)", 0, 29));
        less.refuses(fed.then("end(14)"), -1, beyond("end(?)", 0, 14));
        less.refuses(most.then("feed(0, 0, 0, 0, 0)"), -1, beyond("end(?)", 0, 300));
    }

    private static void promises4And5() {
        Due.Sentence lines = DUE.promise(4,
            "The TAPE (empty then) tells the ARRAY (in place of another): how many LINES"
            + " (0: there is none then).");
        lines.answers(NEW, "array()", 0, "count(6)", 0);
        lines.answers(NEW.fed("array steps 1;"), "array()", 1, "count(6)", 1, "count(7)", 0, "look(0)", -1);
        String most = "array steps 99;element 0;element 1;element 2;element 3;broken 4;look 0;deaf 1;deaf 2;"
            + "deaf 3;deaf 4;";
        lines.answers(NEW.fed(most), "array()", 11, "count(6)", 11, "count(7)", 0);
        lines.answers(NEW.fed(" ".repeat(300 - most.length()) + most), "count(7)", 300, "array()", 11, "count(7)", 0);
        lines.answers(NEW.fed(" ".repeat(300)), "array()", 0, "count(7)", 0);
        // nothing of the other one is left, and nothing is left of any when there is none
        for (Run run : new Run[] {TIGHT, PAIR.then("breaks(0)"), THREE.then("look(9)"), MIXED.then("end(0)")}) {
            for (String text : new String[] {"array steps 3;element 7;look 2;", "array steps 3;deaf 2;",
                "array steps 3;element 7;element 8;element 9;element 10;element 11;look 1;deaf 3;deaf 5;"}) {
                lines.same(NEW.told(text), run.told(text), outAlone());
                lines.same(NEW.told(text), run.then(QUESTIONS).then("end(0)").told(text), outAlone());
            }
            lines.same(NEW, run.then("array()"), outAlone());
            lines.same(NEW, run.told("\n"), outAlone());
            lines.refuses(run.then("array()"), -2, "look(0)", "deaf(0)", "hear(0)", "steps(1)", "breaks(0)", "mends(0)",
                "moves(0, 0)");
        }
        Due.Sentence stays = DUE.promise(4, "-4: a FAULT (all else stays).");
        for (Run run : new Run[] {NEW, BARE, TIGHT.then("breaks(0)"), BROKEN, MIXED.then("end(0)")}) {
            for (String text : new String[] {"#", "array steps 0;", "array steps 5;element 3;broken 4;look 12;",
                "array steps 5;deaf 3;look 4;element"}) {
                stays.answers(run.fed(text), "array()", -4, "count(7)", 0);
                stays.same(run, run.told(text), "fault(0)", "fault(1)");
            }
        }

        Due.Sentence fault = DUE.promise(5, "Of the latest array(), what 0: its FAULT, 0 without, 1: its place (NONE"
            + " without).");
        Run wrong = NEW.told("array steps 5;look 12;");
        fault.answers(NEW.then("array()"), "fault(0)", 0, "fault(1)", -1);
        fault.answers(wrong, "fault(0)", 2, "fault(1)", 19);
        fault.answers(NEW.told("#"), "fault(0)", 1, "fault(1)", 0);
        fault.answers(NEW.told("array steps 5;look 1;look 1;"), "fault(0)", 3, "fault(1)", 21);
        fault.answers(NEW.told("array steps 5;look" + " ".repeat(282)), "fault(0)", 1, "fault(1)", 300);
        fault.answers(wrong.told("#"), "fault(0)", 1, "fault(1)", 0);
        fault.answers(wrong.told("array steps 5;"), "fault(0)", 0, "fault(1)", -1);
        fault.answers(wrong.then("array()"), "fault(0)", 0, "fault(1)", -1);
        // the TAPE is at fault, but no array() has seen it
        fault.answers(NEW.fed("#"), "fault(0)", 0, "fault(1)", -1);
        fault.answers(wrong.fed("#").then("look(0)", "end(0)"), "fault(0)", 2, "fault(1)", 19);
        Due.Sentence other = DUE.promise(5, "NONE for another what, and ahead of any (what 1).");
        for (Run run : new Run[] {NEW, wrong, PAIR}) {
            other.refuses(run, -1, beyond("fault(?)", 0, 1));
        }
        other.answers(NEW, "fault(1)", -1, "fault(0)", 0);
    }

    /** OUT is no part of the ARRAY. */
    private static String[] outAlone() {
        List<String> all = new ArrayList<>(List.of("count(8)", "TAPE: count(8)"));
        for (int i = 0; i < 30; i++) {
            all.add("octet(" + i + ")");
            all.add("TAPE: octet(" + i + ")");
        }
        return all.toArray(new String[0]);
    }

    private static void promises6To9() {
        Due.Sentence count = DUE.promise(6, "3 the LOOK (NONE), 4 DEAF ones, as bits");
        count.answers(BARE, "count(3)", -1, "count(4)", 0, "look(0)", -1, "count(3)", 0, "look(11)", 0, "count(3)", 11,
            "deaf(0)", 1, "count(4)", 1, "deaf(10)", 2, "count(4)", 1025, "look(0)", 11, "count(4)", 1024);
        Due.Sentence others = DUE.promise(6, "6 LINES, 7 bytes of the TAPE, 8 of OUT. NONE for others.");
        others.tells(BARE, "count(what)", 0, 0, 1, -1, 0, 0, 1, 0, 0, -1);
        others.tells(BROKEN, "count(what)", 2, 0, 3, 2, 0, 1, 4, 0, 0, -1);
        others.tells(TIGHT.then("tell(0)", "feed(0, 0, 0, 0, 0)"), "count(what)", 5, 5, 9, 0, 54, 5, 11, 20, 9, -1);
        for (Run run : new Run[] {NEW, BARE, MIXED}) {
            others.refuses(run, -1, beyond("count(?)", 0, 8));
        }

        Due.Sentence element = DUE.promise(7, "what 0: its POSITION, 1: 1 if it is BROKEN, else 0. -2: there are none"
            + " such.");
        element.answers(BROKEN.then("mends(1)"), "element(0, 0)", 0, "element(0, 1)", 1, "element(1, 0)", 11,
            "element(1, 1)", 0);
        element.answers(TIGHT, "element(4, 0)", 4, "element(4, 1)", 0);
        element.refuses(BROKEN, -2, beyond("element(?, 0)", 0, 1)).refuses(BROKEN, -2, beyond("element(0, ?)", 0, 1));
        element.refuses(TIGHT, -2, beyond("element(?, 1)", 0, 4)).refuses(TIGHT, -2, beyond("element(4, ?)", 0, 1));
        element.refuses(BARE, -2, "element(0, 0)").refuses(NEW, -2, "element(0, 0)");

        Due.Sentence hears = DUE.promise(8, "By which power of z (0 .. 11) an ELEMENT hears a DIRECTION. -2: there are"
            + " none such.");
        // 11 times 11 is 121: 1 behind ten times round; a BROKEN one, too
        hears.answers(BROKEN, "hears(1, 0)", 0, "hears(1, 1)", 11, "hears(1, 11)", 1, "hears(0, 11)", 0);
        hears.answers(THREE, "hears(2, 5)", 10, "hears(2, 6)", 0, "hears(1, 11)", 11);
        hears.refuses(TIGHT, -2, beyond("hears(?, 0)", 0, 4)).refuses(TIGHT, -2, beyond("hears(4, ?)", 0, 11));
        hears.refuses(ONE, -2, beyond("hears(?, 11)", 0, 0)).refuses(BARE, -2, "hears(0, 0)");
        hears.refuses(NEW, -2, "hears(0, 0)", "hears(0, 11)");

        Due.Sentence wish = DUE.promise(9,
            "Of the i-th WISH (from 0), what 0: its DIRECTION, 1: 1 if it is LOST, else 0."
            + " -2: there are none such.");
        wish.answers(TIGHT, "wish(0, 0)", 0, "wish(4, 0)", 5, "wish(4, 1)", 0);
        wish.answers(OVER, "wish(0, 1)", 0, "wish(1, 0)", 2, "wish(1, 1)", 1);
        wish.answers(LOOKLESS, "wish(0, 0)", 2, "wish(0, 1)", 0);
        wish.answers(BROKEN, "wish(0, 0)", 2, "wish(0, 1)", 1);
        wish.refuses(TIGHT, -2, beyond("wish(?, 0)", 0, 4)).refuses(TIGHT, -2, beyond("wish(0, ?)", 0, 1));
        wish.refuses(LOOKLESS, -2, beyond("wish(?, 1)", 0, 0)).refuses(BARE, -2, "wish(0, 0)", "wish(0, 1)");
    }

    private static void promises10To15() {
        DUE.promise(10, "RANK.").answers(NEW, "rank()", 0).answers(BARE, "rank()", 0).answers(BROKEN, "rank()", 0)
            .answers(OVER, "rank()", 1).answers(TIGHT, "rank()", 5).answers(TIGHT.then("breaks(0)"), "rank()", 4);
        Due.Sentence solved = DUE.promise(11, "1 if there are TRUE WEIGHTS, else 0.");
        unsolvedBut(solved, "solved()", 0);
        solved.answers(ONE, "solved()", 1).answers(TIGHT, "solved()", 1);
        solved.answers(TIGHT.then("breaks(4)"), "solved()", 0);

        Due.Sentence weight = DUE.promise(12, "Of an ELEMENT's TRUE WEIGHT, what 0 .. 3: a .. d, 4: the lower number."
            + " NO_SUCH.");
        weight.tells(PAIR, "weight(1, what)", 1, 0, 0, 0, 2, NO_SUCH);
        weight.tells(TWINNED, "weight(1, what)", 0, 0, 0, -1, 2, NO_SUCH);
        weight.refuses(PAIR, NO_SUCH, beyond("weight(?, 0)", 0, 1));
        weight.refuses(PAIR, NO_SUCH, beyond("weight(0, ?)", 0, 4));
        weight.refuses(TIGHT, NO_SUCH, beyond("weight(?, 4)", 0, 4));
        unsolved(weight, NO_SUCH, "weight(0, 0)", "weight(0, 4)");

        Due.Sentence gain = DUE.promise(13, "Of the GAIN of a DIRECTION likewise.");
        gain.tells(PAIR, "gain(0, what)", 1, 0, 0, 0, 1, NO_SUCH).tells(PAIR, "gain(6, what)", 0, 0, 0, 0, 1, NO_SUCH);
        gain.tells(PAIR, "gain(11, what)", 1, 1, 0, -1, 2, NO_SUCH);
        gain.refuses(PAIR, NO_SUCH, beyond("gain(?, 0)", 0, 11)).refuses(PAIR, NO_SUCH, beyond("gain(11, ?)", 0, 4));
        unsolved(gain, NO_SUCH, "gain(0, 0)", "gain(11, 4)");

        Due.Sentence power = DUE.promise(14, "Of its POWER, what 0: x, 1: y, 2: the lower number. NO_SUCH.");
        power.tells(PAIR, "power(0, what)", 1, 0, 1, NO_SUCH).tells(PAIR, "power(6, what)", 0, 0, 1, NO_SUCH);
        power.tells(PAIR, "power(11, what)", 2, 1, 4, NO_SUCH).tells(PAIR, "power(7, what)", 2, -1, 4, NO_SUCH);
        power.refuses(PAIR, NO_SUCH, beyond("power(?, 0)", 0, 11)).refuses(PAIR, NO_SUCH, beyond("power(11, ?)", 0, 2));
        unsolved(power, NO_SUCH, "power(0, 0)", "power(11, 2)");

        Due.Sentence total = DUE.promise(15, "TOTAL likewise.");
        total.tells(ONE, "total(what)", 1, 0, 1, NO_SUCH).tells(PAIR, "total(what)", 1, 0, 2, NO_SUCH);
        total.refuses(PAIR, NO_SUCH, beyond("total(?)", 0, 2));
        unsolved(total, NO_SUCH, "total(0)", "total(1)", "total(2)");
    }

    /** One answer of all that have no TRUE WEIGHTS, which is no refusal. */
    private static void unsolvedBut(Due.Sentence sentence, String call, long answer) {
        for (Run run : UNSOLVED) {
            sentence.answers(run, call, answer).unchanged(run, call);
        }
    }

    private static void promises16And17() {
        Due.Sentence louder = DUE.promise(16, "-1, 0, 1. -2: there are none such, no TRUE WEIGHTS (so below).");
        louder.answers(PAIR, "louder(0, 11)", 1, "louder(11, 0)", -1, "louder(1, 11)", 0, "louder(6, 6)", 0,
            "louder(6, 5)", -1, "louder(5, 6)", 1, "louder(2, 3)", 1, "louder(3, 2)", -1, "louder(0, 6)", 1);
        louder.refuses(PAIR, -2, beyond("louder(?, 0)", 0, 11)).refuses(PAIR, -2, beyond("louder(0, ?)", 0, 11));
        unsolved(louder, -2, "louder(0, 0)", "louder(11, 0)");

        Due.Sentence like = DUE.promise(17, "the greatest first, of like ones the least.");
        like.tells(PAIR, "loud(what)", 0, 1, 11, 2, 10, 3, 9, 4, 8, 5, 7, 6);
        like.tells(ROUND, "loud(what)", 6, 5, 7, 4, 8, 3, 9, 2, 10, 1, 11, 0);
        like.tells(ONE, "loud(what)", 0, 1, 2, 3, 4, 5, 6, 7, 8, 9, 10, 11);
        like.tells(TWINNED, "loud(what)", 1, 5, 9, 0, 2, 4, 6, 8, 10, 3, 7, 11);
        Due.Sentence loud = DUE.promise(17, "-2: there is none such (i 0 .. 11).");
        loud.answers(PAIR, "loud(0)", 0, "loud(11)", 6).refuses(PAIR, -2, beyond("loud(?)", 0, 11));
        unsolved(loud, -2, "loud(0)", "loud(11)");
    }

    private static void promise18() {
        Due.Sentence most = DUE.promise(18, "all with POWERS of GAINS of above / below (0 .. 99 by 1 .. 99) at most the"
            + " most");
        // 3 and 9 have just 1/2, 4 and 8 just 1/4
        most.answers(PAIR, "hush(1, 2, 0)", 7, "hush(49, 99, 0)", 5, "hush(50, 99, 0)", 7, "hush(1, 4, 0)", 5,
            "hush(24, 97, 0)", 3, "hush(24, 96, 0)", 5);
        most.answers(PAIR, "hush(0, 1, 0)", 1, "hush(0, 99, 0)", 1, "hush(99, 1, 0)", 12, "hush(99, 99, 0)", 12);
        Due.Sentence many = DUE.promise(18, "what 0: how many (12 at most), 1: the first of them");
        many.answers(PAIR, "hush(1, 1, 0)", 12, "hush(1, 1, 1)", 0, "hush(98, 99, 0)", 11, "hush(98, 99, 1)", 1,
            "hush(0, 1, 0)", 1, "hush(0, 1, 1)", 6);
        many.answers(ROUND, "hush(99, 1, 0)", 12, "hush(99, 1, 1)", 0);
        Due.Sentence round = DUE.promise(18, "Of DIRECTIONS one behind the other (0 behind 11)");
        round.answers(ROUND, "hush(1, 4, 0)", 5, "hush(1, 4, 1)", 10, "hush(98, 99, 0)", 11, "hush(98, 99, 1)", 7,
            "hush(0, 1, 0)", 1, "hush(0, 1, 1)", 0);
        Due.Sentence like = DUE.promise(18, "of like rows the least (NONE: there are none).");
        like.answers(THREE, "hush(0, 1, 0)", 1, "hush(0, 1, 1)", 3);
        // 2 3 4, 6 7 8 and 10 11 0; a DIRECTION on: 3 4 5, 7 8 9 and 11 0 1; two on: 0 1 2, 4 5 6 and 8 9 10
        like.answers(TWINNED, "hush(1, 2, 0)", 3, "hush(1, 2, 1)", 2);
        like.answers(TWINNED.then("look(2)"), "hush(1, 2, 0)", 3, "hush(1, 2, 1)", 3);
        like.answers(TWINNED.then("look(3)"), "hush(1, 2, 0)", 3, "hush(1, 2, 1)", 0);
        like.answers(ONE, "hush(98, 99, 0)", 0, "hush(98, 99, 1)", -1, "hush(0, 1, 1)", -1, "hush(1, 1, 0)", 12);
        Due.Sentence numbers = DUE.promise(18, "-2 (other numbers, too).");
        numbers.refuses(PAIR, -2, fractionsBeyond("hush(?, 0)")).refuses(PAIR, -2, beyond("hush(1, 2, ?)", 0, 1));
        numbers.refuses(PAIR, -2, "hush(0, 0, 1)");
        unsolved(numbers, -2, "hush(1, 1, 0)", "hush(0, 1, 1)", "hush(99, 99, 1)");
    }

    private static void promise19() {
        Due.Sentence row = DUE.promise(19, "one behind the other, the LOOK among them, all with such POWERS of above /"
            + " below at least (0, if its own is less).");
        row.answers(PAIR, "beam(1, 2)", 7, "beam(50, 99)", 5, "beam(49, 99)", 7, "beam(1, 1)", 1, "beam(99, 99)", 1,
            "beam(99, 98)", 0, "beam(99, 1)", 0, "beam(98, 99)", 1, "beam(1, 99)", 11, "beam(0, 1)", 12, "beam(0, 99)",
                12);
        row.answers(ROUND, "beam(1, 2)", 7, "beam(1, 99)", 11, "beam(0, 1)", 12, "beam(99, 98)", 0);
        // other rows are as loud: the LOOK's alone counts; around 0 and around 11 it goes on
        row.answers(TWINNED, "beam(1, 2)", 3, "beam(1, 1)", 1, "beam(51, 99)", 1, "beam(0, 1)", 12, "beam(1, 99)", 3);
        row.answers(TWINNED.then("look(0)"), "beam(1, 2)", 3).answers(TWINNED.then("look(11)"), "beam(1, 2)", 3);
        row.answers(ONE, "beam(1, 1)", 12, "beam(99, 98)", 0);
        // two below the LOOK and one above it; none below and one above
        Run below = Run.of("array steps 7;element 0;element 5;look 3;deaf 5;");
        row.answers(below, "beam(1, 2)", 4);
        row.answers(below.then("look(0)", "hear(5)", "deaf(2)"), "beam(1, 2)", 4);
        row.answers(below.then("look(11)", "hear(5)", "deaf(1)"), "beam(1, 2)", 4);
        Run ahead = Run.of("array steps 2;element 1;element 5;look 1;deaf 3;");
        row.answers(ahead, "beam(1, 2)", 2);
        row.answers(ahead.then("look(11)", "hear(3)", "deaf(1)"), "beam(1, 2)", 2);
        Due.Sentence numbers = DUE.promise(19, "-2 likewise.");
        numbers.refuses(PAIR, -2, fractionsBeyond("beam(?)")).refuses(PAIR, -2, "beam(0, 0)");
        unsolved(numbers, -2, "beam(0, 1)", "beam(1, 1)", "beam(99, 1)");
    }

    private static void promises20And21() {
        Due.Sentence lost = DUE.promise(20, "SHARES of LOST ones are 0.");
        // 2 and 4 are TWINS: the second of them is LOST
        Run two = Run.of("array steps 7;element 0;element 6;look 1;deaf 2;deaf 4;");
        lost.tells(two, "share(0, what)", 1, 0, 0, 0, 2, NO_SUCH).tells(two, "share(2, what)", 0, 0, 0, 0, 1, NO_SUCH);
        // it was not, as long as a third ELEMENT told them apart
        Run third = Run.of("array steps 7;element 0;element 6;element 1;look 1;deaf 2;deaf 4;").then("share(2, 0)");
        lost.answers(third, "wish(2, 1)", 0, "breaks(2)", 2, "wish(2, 1)", 1);
        lost.tells(third.then("breaks(2)"), "share(2, what)", 0, 0, 0, 0, 1, NO_SUCH);
        DUE.promise(20, "The SHARE of the i-th WISH, what 0 .. 3: a .. d, 4: the lower number")
            .tells(Run.of("array steps 3;element 0;element 1;look 1;deaf 0;"), "share(0, what)", 4, 4, 0, -2, 1,
                NO_SUCH);
        Due.Sentence none = DUE.promise(20, "NO_SUCH: there are none such, no TRUE WEIGHTS.");
        none.refuses(two, NO_SUCH, beyond("share(?, 0)", 0, 2)).refuses(two, NO_SUCH, beyond("share(0, ?)", 0, 4));
        none.refuses(ONE, NO_SUCH, beyond("share(?, 4)", 0, 0)).refuses(TIGHT, NO_SUCH, beyond("share(?, 4)", 0, 4));
        none.tells(ONE, "share(0, what)", 1, 0, 0, 0, 1, NO_SUCH);
        unsolved(none, NO_SUCH, "share(0, 0)", "share(0, 4)", "share(1, 0)");

        Due.Sentence room = DUE.promise(21, "what 0: x, 1: y, of x + y r (1 without any). NO_SUCH: another what.");
        for (Run run : new Run[] {NEW, BARE, BROKEN, Run.of("array steps 3;look 0;deaf 1;")}) {
            room.tells(run, "room(what)", 1, 0, NO_SUCH);
        }
        room.tells(ONE, "room(what)", 1, 0, NO_SUCH).tells(OVER, "room(what)", 1, 0, NO_SUCH);
        room.tells(LOOKLESS, "room(what)", 2, 0, NO_SUCH).tells(two, "room(what)", 4, 0, NO_SUCH);
        Run next = Run.of("array steps 3;element 0;element 1;look 1;deaf 0;");
        room.tells(next, "room(what)", 2, -1, NO_SUCH);
        room.tells(next.then("room(1)", "breaks(0)", "breaks(1)"), "room(what)", 1, 0, NO_SUCH);
        // five times 5 are the most that can be: ROWS that have nothing with one another
        room.tells(Run.of("array steps 3;element 0;element 3;element 6;element 9;look 1;deaf 0;deaf 2;deaf 3;"),
            "room(what)", 256, 0, NO_SUCH);
        for (Run run : new Run[] {NEW, BROKEN, OVER, TIGHT}) {
            room.refuses(run, NO_SUCH, beyond("room(?)", 0, 1));
        }
    }

    private static void promises22And23() {
        Due.Sentence likeness = DUE.promise(22, "what 0: x, 1: y. -1000: there are none such.");
        likeness.answers(NEW, "likeness(0, 11, 0)", 0, "likeness(0, 0, 1)", 0);
        likeness.answers(BROKEN, "likeness(0, 0, 0)", 0).answers(BROKEN.then("mends(0)"), "likeness(0, 11, 0)", 1);
        likeness.answers(TIGHT, "likeness(0, 0, 0)", 25, "likeness(11, 11, 0)", 25, "likeness(11, 11, 1)", 0);
        likeness.answers(PAIR, "likeness(0, 11, 0)", 2, "likeness(0, 11, 1)", 1, "likeness(11, 4, 0)", 2,
            "likeness(11, 4, 1)", -1, "likeness(11, 5, 0)", 0);
        for (Run run : new Run[] {NEW, PAIR, OVER, TIGHT}) {
            likeness.refuses(run, -1000, beyond("likeness(?, 11, 0)", 0, 11));
            likeness.refuses(run, -1000, beyond("likeness(0, ?, 1)", 0, 11));
            likeness.refuses(run, -1000, beyond("likeness(11, 0, ?)", 0, 1));
        }

        Due.Sentence like = DUE.promise(23, "of like ones the least. NONE: there is none; -2: there is none such.");
        like.tells(PAIR, "nearest(what)", 1, 0, 1, 2, 3, 4, 5, 6, 7, 8, 9, 0, -2);
        // TWINS, though most alike, are not near: of those that are 1 or 3 apart all are alike
        like.tells(TWINNED, "nearest(what)", 1, 0, 1, 0, 1, 0, 1, 0, 1, 0, 1, 0, -2);
        for (Run run : new Run[] {NEW, BARE, BROKEN, ONE}) {
            like.answers(run, "nearest(0)", -1, "nearest(11)", -1);
        }
        // likeness 0 is still the most where no other is
        like.answers(Run.of("array steps 3;element 0;element 6;"), "nearest(0)", 1, "nearest(11)", 0);
        for (Run run : new Run[] {NEW, PAIR, OVER}) {
            like.refuses(run, -2, beyond("nearest(?)", 0, 11));
        }
    }

    private static void promises24To26() {
        Due.Sentence quiet = DUE.promise(24, "How many DIRECTIONS have GAIN 0. -2.");
        quiet.answers(ONE, "quiet()", 0).answers(PAIR, "quiet()", 1).answers(TWINNED, "quiet()", 3);
        quiet.answers(Run.of("array steps 3;element 0;element 3;element 6;element 9;look 11;"), "quiet()", 9);
        unsolved(quiet, -2, "quiet()");

        Due.Sentence side = DUE.promise(25, "of like ones the least. NONE: there is none; -2.");
        side.answers(PAIR, "side()", 1).answers(ROUND, "side()", 5).answers(TWINNED, "side()", 0);
        // the one that is DEAF would be the loudest, the one across from it is then
        side.answers(PAIR.then("hear(6)", "deaf(1)"), "side()", 7);
        Run zero = Run.of("array steps 1;element 7;element 11;element 6;element 4;look 3;deaf 1;");
        side.answers(zero, "side()", 0);
        side.answers(ONE, "side()", -1).answers(ONE.then("look(11)"), "side()", -1);
        unsolved(side, -2, "side()");

        Due.Sentence bounded = DUE.promise(26, "ASIDE are above / below (0 .. 99 by 1 .. 99) at most, else 0. -2 (other"
            + " numbers, too).");
        // 0, 2, 4, .. have just 1/2; (2 + r) / 4 is between 92/99 and 93/99
        bounded.answers(TWINNED, "bounded(1, 2)", 1, "bounded(49, 99)", 0, "bounded(50, 99)", 1, "bounded(0, 1)", 0,
            "bounded(0, 99)", 0, "bounded(99, 1)", 1, "bounded(99, 99)", 1);
        // 0 alone is louder
        bounded.answers(zero, "bounded(50, 99)", 0);
        bounded.answers(PAIR, "bounded(92, 99)", 0, "bounded(93, 99)", 1);
        bounded.answers(ONE, "bounded(0, 1)", 1, "bounded(0, 99)", 1);
        bounded.answers(Run.of("array steps 3;element 0;element 6;look 1;"), "bounded(0, 1)", 1);
        bounded.refuses(TWINNED, -2, fractionsBeyond("bounded(?)")).refuses(ONE, -2, fractionsBeyond("bounded(?)"));
        unsolved(bounded, -2, "bounded(0, 1)", "bounded(1, 1)", "bounded(99, 99)");
    }

    private static void promises27And28() {
        Due.Sentence twins = DUE.promise(27, "TWINS of a DIRECTION (it, too), as bits. -2: there is none such.");
        twins.answers(PAIR, "twins(0)", 1, "twins(11)", 2048).answers(ONE, "twins(0)", 4095, "twins(11)", 4095);
        twins.answers(BROKEN, "twins(0)", 4095).answers(BROKEN.then("mends(0)"), "twins(0)", 4095);
        twins.answers(BROKEN.then("mends(0)", "mends(1)"), "twins(0)", 1, "twins(11)", 2048);
        twins.answers(Run.of("array steps 3;element 1;element 7;"), "twins(0)", 1365, "twins(11)", 2730);
        for (Run run : new Run[] {NEW, PAIR, OVER}) {
            twins.refuses(run, -2, beyond("twins(?)", 0, 11));
        }
        Due.Sentence sets = DUE.promise(28, "How many sets of TWINS the twelve fall into.");
        int[] apart = {1, 12, 6, 4, 3, 12, 2, 12, 3, 4, 6, 12};
        for (int p = 1; p < 12; p++) {
            sets.answers(Run.of("array steps 3;element 0;element " + p + ";"), "sets()", apart[p]);
        }
        sets.answers(NEW, "sets()", 1).answers(BARE, "sets()", 1).answers(BROKEN, "sets()", 1);
        sets.answers(ONE, "sets()", 1);
        sets.answers(Run.of("array steps 3;element 0;element 4;element 6;"), "sets()", 6);
    }

    private static void promises29And30() {
        Due.Sentence without = DUE.promise(29,
            "Were an ELEMENT BROKEN (too), what 0: 1 if there were TRUE WEIGHTS, else 0,"
            + " 1: RANK. -2: there are none such.");
        without.answers(THREE, "without(0, 0)", 0, "without(1, 0)", 1, "without(2, 0)", 0, "without(2, 1)", 2,
            "count(1)", 3, "rank()", 3);
        without.answers(THREE.then("breaks(1)"), "without(1, 0)", 1, "without(1, 1)", 2, "without(0, 0)", 0,
            "without(0, 1)", 1);
        without.answers(ONE, "without(0, 0)", 0, "without(0, 1)", 0).answers(BROKEN, "without(1, 0)", 0);
        without.answers(LOOKLESS, "without(1, 0)", 0, "without(1, 1)", 1);
        without.refuses(THREE, -2, beyond("without(?, 0)", 0, 2)).refuses(THREE, -2, beyond("without(2, ?)", 0, 1));
        without.refuses(NEW, -2, "without(0, 0)").refuses(BARE, -2, "without(0, 1)");
        without.unchanged(THREE, "without(0, 0)").unchanged(TIGHT, "without(4, 1)").unchanged(BROKEN, "without(0, 0)");

        Due.Sentence spares = DUE.promise(30, "ELEMENTS, not BROKEN, that may break, each alone, and there are TRUE"
            + " WEIGHTS, as bits.");
        unsolvedBut(spares, "spares()", 0);
        spares.answers(ONE, "spares()", 0).answers(TIGHT, "spares()", 0).answers(THREE, "spares()", 2);
        spares.answers(TIGHT.then("hear(5)"), "spares()", 31).answers(TWINNED, "spares()", 3);
        spares.answers(TWINNED.then("breaks(0)"), "spares()", 0);
        spares.answers(Run.of("array steps 3;broken 0;element 1;broken 2;element 3;look 0;"), "spares()", 10);
        spares.unchanged(THREE, "spares()").unchanged(TWINNED, "spares()");
    }

    private static void promises31And32() {
        Due.Sentence frail = DUE.promise(31,
            "(0: there are none now), 1: the least such set of so few, as bits. -2: there"
            + " are none such.");
        for (Run run : UNSOLVED) {
            frail.answers(run, "frail(0)", 0, "frail(1)", 0);
        }
        frail.answers(ONE, "frail(0)", 1, "frail(1)", 1).answers(TIGHT, "frail(0)", 1, "frail(1)", 1);
        frail.answers(TWINNED, "frail(0)", 2, "frail(1)", 3).answers(THREE, "frail(0)", 1, "frail(1)", 1);
        // the first one may break: of the others the least
        frail.answers(Run.of("array steps 3;element 1;element 0;element 2;look 0;deaf 3;deaf 9;"), "frail(1)", 2);
        frail.answers(Run.of("array steps 3;broken 0;element 1;broken 2;element 3;look 0;"), "frail(0)", 2, "frail(1)",
            10);
        frail.answers(Run.of("array steps 4;element 8;element 6;element 2;element 0;element 1;look 7;"), "frail(0)", 5,
            "frail(1)", 31);
        for (Run run : new Run[] {NEW, TIGHT, OVER}) {
            frail.refuses(run, -2, beyond("frail(?)", 0, 1));
        }
        frail.unchanged(THREE, "frail(0)").unchanged(TWINNED, "frail(1)");
        DUE.promise(31, "What 0: the fewest ELEMENTS that must break so that there are no TRUE WEIGHTS (0")
            .answers(Run.of("array steps 4;element 8;element 6;element 2;element 0;look 7;deaf 10;"), "frail(0)", 2,
                "frail(1)", 6);

        Due.Sentence fewest = DUE.promise(32,
            "The fewest ELEMENTS, not BROKEN, by which, were all others BROKEN, there are"
            + " TRUE WEIGHTS, what 0: how many, 1: the least such set, as bits. NONE: by none; -2: there are"
            + " none such.");
        for (Run run : UNSOLVED) {
            fewest.answers(run, "fewest(0)", -1, "fewest(1)", -1);
        }
        fewest.answers(ONE, "fewest(0)", 1, "fewest(1)", 1).answers(TIGHT, "fewest(0)", 5, "fewest(1)", 31);
        fewest.answers(THREE, "fewest(0)", 2, "fewest(1)", 5).answers(TWINNED, "fewest(0)", 1, "fewest(1)", 1);
        // the least one is BROKEN, so another is the least
        fewest.answers(TWINNED.then("breaks(0)"), "fewest(0)", 1, "fewest(1)", 2);
        fewest.answers(TWINNED.then("breaks(0)", "breaks(1)"), "fewest(0)", -1);
        for (Run run : new Run[] {NEW, TIGHT, OVER}) {
            fewest.refuses(run, -2, beyond("fewest(?)", 0, 1));
        }
        fewest.unchanged(THREE, "fewest(0)").unchanged(TWINNED, "fewest(1)");
    }

    private static void promises33And34() {
        Due.Sentence leak = DUE.promise(33, "POWER, what 0: x, 1: y, 2: the lower number. NO_SUCH.");
        leak.tells(PAIR, "leak(1, 6, what)", 1, 0, 4, NO_SUCH).tells(PAIR, "leak(0, 11, what)", 1, 0, 4, NO_SUCH);
        leak.tells(ONE, "leak(0, 0, what)", 0, 0, 1, NO_SUCH).tells(THREE, "leak(1, 9, what)", 0, 0, 1, NO_SUCH);
        // a BROKEN one's WEIGHT is 0 as it is
        leak.tells(PAIR.then("hear(6)", "breaks(0)"), "leak(0, 3, what)", 1, 0, 1, NO_SUCH);
        leak.refuses(PAIR, NO_SUCH, beyond("leak(?, 0, 0)", 0, 1));
        leak.refuses(PAIR, NO_SUCH, beyond("leak(1, ?, 0)", 0, 11));
        leak.refuses(PAIR, NO_SUCH, beyond("leak(1, 11, ?)", 0, 2));
        unsolved(leak, NO_SUCH, "leak(0, 0, 0)", "leak(1, 11, 2)");

        Due.Sentence weakest = DUE.promise(34,
            "is greatest, of like ones the first. NONE: there are no DEAF ones; -2.");
        weakest.answers(PAIR, "weakest()", 0).answers(THREE, "weakest()", 0).answers(TIGHT, "weakest()", 2);
        // the first is BROKEN, the others are alike
        weakest.answers(Run.of("array steps 4;broken 2;element 7;element 5;look 9;deaf 8;"), "weakest()", 1);
        weakest.answers(Run.of("array steps 6;element 1;element 0;element 2;look 0;deaf 3;deaf 9;"), "weakest()", 1);
        weakest.answers(ONE, "weakest()", -1).answers(TWINNED, "weakest()", -1);
        weakest.answers(PAIR.then("hear(6)"), "weakest()", -1);
        DUE.promise(34, "the greatest POWER of GAINS of DEAF ones is greatest").answers(TIGHT, "weakest()", 2);
        unsolved(weakest, -2, "weakest()");
    }

    private static void promises35To38() {
        Due.Sentence cut = DUE.promise(35,
            "Of an ELEMENT's WEIGHT that is CUT a .. d (what 0 .. 3), in STEPS. NO_SUCH.");
        cut.tells(TWINNED, "cut(0, what)", 2, 0, 0, 0, NO_SUCH).tells(TWINNED, "cut(1, what)", 0, 0, 0, -2, NO_SUCH);
        cut.tells(ONE.then("steps(1)"), "cut(0, what)", 1, 0, 0, 0, NO_SUCH);
        cut.tells(ONE.then("steps(99)"), "cut(0, what)", 99, 0, 0, 0, NO_SUCH);
        cut.refuses(PAIR, NO_SUCH, beyond("cut(?, 0)", 0, 1)).refuses(PAIR, NO_SUCH, beyond("cut(1, ?)", 0, 3));
        unsolved(cut, NO_SUCH, "cut(0, 0)", "cut(0, 3)");

        Due.Sentence gain = DUE.promise(36, "Of the CUT GAIN of a DIRECTION a .. d (what 0 .. 3), in STEPS. NO_SUCH.");
        gain.tells(PAIR, "cutGain(0, what)", 10, 0, 0, 0, NO_SUCH);
        gain.tells(PAIR, "cutGain(11, what)", 5, 5, 0, -5, NO_SUCH);
        gain.tells(PAIR.then("steps(1)"), "cutGain(0, what)", 2, 0, 0, 0, NO_SUCH);
        gain.refuses(PAIR, NO_SUCH, beyond("cutGain(?, 0)", 0, 11));
        gain.refuses(PAIR, NO_SUCH, beyond("cutGain(11, ?)", 0, 3));
        unsolved(gain, NO_SUCH, "cutGain(0, 0)", "cutGain(11, 3)");

        Due.Sentence power = DUE.promise(37,
            "Of its POWER, lower number STEPS times STEPS, not in lowest terms, what 0: x,"
            + " 1: y. NO_SUCH.");
        power.tells(PAIR, "cutPower(0, what)", 100, 0, NO_SUCH).tells(PAIR, "cutPower(11, what)", 50, 25, NO_SUCH);
        power.tells(PAIR, "cutPower(6, what)", 0, 0, NO_SUCH).tells(PAIR.then("steps(1)"), "cutPower(0, what)", 4, 0);
        power.refuses(PAIR, NO_SUCH, beyond("cutPower(?, 0)", 0, 11));
        power.refuses(PAIR, NO_SUCH, beyond("cutPower(11, ?)", 0, 1));
        unsolved(power, NO_SUCH, "cutPower(0, 0)", "cutPower(11, 1)");

        Due.Sentence error = DUE.promise(38, "what 0: x, 1: y, 2: the lower number (lowest terms). NO_SUCH.");
        Run halves = Run.of("array steps 3;element 0;element 3;look 1;");
        error.tells(halves, "error(0, what)", 1, 0, 18, NO_SUCH).tells(halves, "error(11, what)", 1, 0, 9, NO_SUCH);
        error.tells(halves, "error(1, what)", 0, 0, 1, NO_SUCH).tells(PAIR, "error(11, what)", 0, 0, 1, NO_SUCH);
        error.refuses(PAIR, NO_SUCH, beyond("error(?, 0)", 0, 11)).refuses(PAIR, NO_SUCH, beyond("error(11, ?)", 0, 2));
        unsolved(error, NO_SUCH, "error(0, 0)", "error(11, 2)");
    }

    private static void promises39And40() {
        Due.Sentence like = DUE.promise(39, "has most POWER, of like ones the least. -2.");
        // 3, 7 and 11 are alike; by 2 STEPS all are
        Run halves = Run.of("array steps 3;element 0;element 3;look 1;");
        like.answers(halves, "farthest()", 3).answers(halves.then("steps(2)"), "farthest()", 0);
        like.answers(Run.of("array steps 2;element 10;element 2;element 11;element 8;element 7;look 1;deaf 4;"),
            "farthest()", 10);
        unsolved(like, -2, "farthest()");

        Due.Sentence within = DUE.promise(40, "is at most that of 2 times ELEMENTS (not BROKEN) by STEPS, else 0. -2.");
        for (int steps : new int[] {1, 2, 99}) {
            for (Run run : new Run[] {ONE, PAIR, halves, TIGHT, THREE.then("breaks(1)")}) {
                within.answers(run.then("steps(" + steps + ")"), "within(0)", 1, "within(6)", 1, "within(11)", 1);
            }
        }
        // the farthest off that were found: 1.37 and 1.51 times ELEMENTS by STEPS
        within.answers(Run.of("array steps 11;element 1;element 4;look 11;deaf 2;"), "within(0)", 1);
        within.answers(Run.of("array steps 3;element 5;element 0;element 11;element 3;look 11;deaf 10;deaf 0;deaf 7;"),
            "within(0)", 1);
        within.refuses(PAIR, -2, beyond("within(?)", 0, 11));
        unsolved(within, -2, "within(0)", "within(11)");
    }

    private static void promise41() {
        Due.Sentence least = DUE.promise(41,
            "The least STEPS (1 .. 99) by which POWERS of CUT GAINS of all DEAF ones are"
            + " above / below (0 .. 99 by 1 .. 99) at most.");
        least.answers(PAIR, "coarsest(0, 1)", 1, "coarsest(99, 1)", 1, "coarsest(0, 99)", 1, "coarsest(99, 99)", 1);
        // by 99 alone; by 3 it is just 1/9
        least.answers(Run.of("array steps 6;element 5;element 4;element 3;element 7;element 8;look 4;deaf 11;"
            + "deaf 6;deaf 7;"),
            "coarsest(0, 1)", 99, "coarsest(0, 99)", 99);
        Run ninth = Run.of("array steps 6;element 2;element 5;element 7;look 0;deaf 2;");
        least.answers(ninth.then("steps(3)"), "cutPower(2, 0)", 1, "cutPower(2, 1)", 0, "coarsest(1, 9)", 3,
            "coarsest(11, 99)", 3, "coarsest(10, 99)", 4);
        least.answers(TWINNED, "coarsest(0, 1)", 1).answers(ONE, "coarsest(0, 99)", 1);
        least.unchanged(ninth, "coarsest(0, 1)");
        Due.Sentence none = DUE.promise(41, "NONE: by none; -2 (other numbers, too).");
        Run never = Run.of("array steps 2;element 7;element 4;element 2;element 8;look 5;deaf 7;deaf 2;");
        none.answers(never, "coarsest(0, 1)", -1, "coarsest(99, 1)", 1).unchanged(never, "coarsest(0, 1)");
        none.refuses(PAIR, -2, fractionsBeyond("coarsest(?)")).refuses(ONE, -2, fractionsBeyond("coarsest(?)"));
        unsolved(none, -2, "coarsest(0, 1)", "coarsest(99, 99)");
    }

    private static void promise42() {
        Due.Sentence less = DUE.promise(42,
            "are least, and less than they are: what 0: the ELEMENT, 1: 0 .. 3, 2: 1 or -1");
        Run one = Run.of("array steps 1;element 8;element 9;look 4;deaf 7;");
        less.tells(one, "step(what)", 0, 0, -1, -2);
        less.tells(Run.of("array steps 7;element 7;element 5;look 5;deaf 2;"), "step(what)", 1, 3, -1, -2);
        // ELEMENT 0 would do better by part 3, but it is BROKEN
        DUE.promise(42, "One STEP more or less of one of a .. d of one ELEMENT's CUT weight (not BROKEN)")
            .tells(Run.of("array steps 3;broken 7;element 9;element 3;element 2;look 4;deaf 5;"), "step(what)", 1, 0,
                1, -2);
        Due.Sentence first = DUE.promise(42, "of several the first by these (1 ahead of -1).");
        // ELEMENT 1 by part 3 and ELEMENT 2 by part 1 are alike; ELEMENT 0 by part 2 and ELEMENT 1 by part 0; of one
        // ELEMENT part 0 less and part 3 more. 1 and -1 of one part never are: together they make it more.
        first.tells(Run.of("array steps 5;broken 6;element 3;element 5;look 3;deaf 7;"), "step(what)", 1, 3, 1);
        first.tells(Run.of("array steps 8;element 8;element 0;look 1;deaf 8;"), "step(what)", 0, 2, 1);
        first.tells(Run.of("array steps 2;element 4;element 3;element 6;look 11;deaf 6;"), "step(what)", 0, 0, -1);
        Due.Sentence none = DUE.promise(42, "NONE: there is none; -2 (another what, too).");
        // nothing is heard; nothing is DEAF; something is heard, but no STEP makes it less
        none.tells(PAIR, "step(what)", -1, -1, -1, -2).tells(TWINNED, "step(what)", -1, -1, -1, -2);
        Run stuck = Run.of("array steps 7;element 9;element 4;element 2;look 8;deaf 1;");
        none.tells(stuck, "step(what)", -1, -1, -1, -2).tells(stuck, "cutPower(1, what)", 2, -1);
        for (Run run : new Run[] {one, PAIR, TWINNED}) {
            none.refuses(run, -2, beyond("step(?)", 0, 2));
        }
        none.unchanged(one, "step(0)");
        unsolved(none, -2, "step(0)", "step(1)", "step(2)");
    }

    private static void promises43And44() {
        Due.Sentence least = DUE.promise(43, "The least STEPS (1 .. 99) by which all CUT weights are the TRUE ones.");
        least.answers(ONE, "exactly()", 1).answers(PAIR, "exactly()", 2);
        // of all arrays 96 is the most, then comes 100: that is by none
        least.answers(Run.of("array steps 1;element 0;element 2;element 3;element 4;element 6;look 0;deaf 2;"
            + "deaf 3;deaf 5;"),
            "exactly()", 96);
        Run hundred = Run.of("array steps 1;element 0;element 1;element 2;element 3;element 7;look 0;deaf 5;"
            + "deaf 6;deaf 7;");
        DUE.promise(43, "NONE: by none; -2.").answers(hundred, "exactly()", -1).unchanged(hundred, "exactly()");
        unsolved(least, -2, "exactly()");

        Due.Sentence times = DUE.promise(44,
            "n (1 .. 20) times at most, as long as there is one, what 0: how many times");
        Run nine = Run.of("array steps 1;element 0;element 2;element 3;element 4;element 5;look 0;deaf 2;deaf 5;deaf 7;"
            + "deaf 9;");
        for (int n = 1; n <= 20; n++) {
            times.answers(nine, "polish(" + n + ", 0)", Math.min(n, 9));
        }
        times.tells(PAIR, "polish(20, what)", 0, 0, 0, NO_SUCH).tells(TWINNED, "polish(1, what)", 0, 0, 0, NO_SUCH);
        Run stuck = Run.of("array steps 7;element 9;element 4;element 2;look 8;deaf 1;");
        times.tells(stuck, "polish(20, what)", 0, 2, -1, NO_SUCH);
        Due.Sentence stays = DUE.promise(44, "Nothing stays. NO_SUCH: there are none such, no TRUE WEIGHTS.");
        stays.unchanged(nine, "polish(20, 0)").unchanged(nine, "polish(1, 1)").unchanged(stuck, "polish(20, 2)");
        stays.answers(nine, "polish(9, 0)", 9, "polish(1, 0)", 1, "polish(20, 0)", 9, "step(0)", 0);
        stays.refuses(nine, NO_SUCH, beyond("polish(?, 0)", 1, 20));
        stays.refuses(nine, NO_SUCH, beyond("polish(20, ?)", 0, 2));
        stays.refuses(TWINNED, NO_SUCH, beyond("polish(?, 2)", 1, 20));
        unsolved(stays, NO_SUCH, "polish(1, 0)", "polish(20, 2)");
    }

    private static void promises45And46() {
        Due.Sentence looks = DUE.promise(45,
            "DIRECTIONS, as bits, that as the LOOK (one that is DEAF being DEAF no more)"
            + " make that there are TRUE WEIGHTS.");
        looks.answers(NEW, "looks()", 0).answers(BARE, "looks()", 0).answers(BROKEN, "looks()", 0);
        looks.answers(ONE, "looks()", 4095).answers(PAIR, "looks()", 4095).answers(LOOKLESS, "looks()", 4095);
        // one ELEMENT: the DEAF one alone can be looked at, and two DEAF ones leave none
        looks.answers(OVER, "looks()", 4).answers(OVER.then("deaf(11)"), "looks()", 0);
        looks.answers(Run.of("array steps 4;element 0;element 1;deaf 0;deaf 11;"), "looks()", 2049);
        for (Run run : new Run[] {OVER, PAIR, LOOKLESS, NEW}) {
            looks.unchanged(run, "looks()");
        }
        Due.Sentence easiest = DUE.promise(46,
            "That of these by which TOTAL is least, of like ones the least. NONE: there"
            + " is none.");
        easiest.answers(NEW, "easiest()", -1).answers(BARE, "easiest()", -1).answers(BROKEN, "easiest()", -1);
        easiest.answers(OVER.then("deaf(11)"), "easiest()", -1).answers(OVER, "easiest()", 2);
        easiest.answers(ONE.then("look(7)"), "easiest()", 0).answers(PAIR, "easiest()", 0);
        easiest.answers(Run.of("array steps 4;element 0;element 1;deaf 2;deaf 11;"), "easiest()", 2);
        // 1 DEAF no more is as easy as 7, that has nothing with it, and is less
        easiest.answers(Run.of("array steps 4;element 0;element 1;deaf 1;"), "easiest()", 1);
        easiest.answers(Run.of("array steps 4;element 0;element 1;deaf 11;"), "easiest()", 5);
        // 3 would be, if y of TOTALS did not count
        easiest.answers(Run.of("array steps 2;element 5;element 2;element 7;look 1;deaf 3;deaf 8;"), "easiest()", 0);
        for (Run run : new Run[] {OVER, PAIR, LOOKLESS, NEW}) {
            easiest.unchanged(run, "easiest()");
        }
    }

    private static void promise47() {
        Due.Sentence deafer = DUE.promise(47,
            "that as a DEAF one, too, leaves TRUE WEIGHTS with the least TOTAL, of like"
            + " ones the least. NONE: there is none, four are DEAF; -2.");
        // 3, 7 and 11 are not heard as it is
        deafer.answers(TWINNED, "deafer()", 3).answers(TWINNED.then("look(0)"), "deafer()", 2);
        deafer.answers(TWINNED.then("look(2)"), "deafer()", 0).answers(TWINNED.then("look(9)"), "deafer()", 3);
        deafer.answers(Run.of("array steps 4;element 0;element 1;look 2;"), "deafer()", 8);
        // 3 would be, if y of TOTALS did not count
        deafer.answers(Run.of("array steps 3;element 3;element 7;element 4;look 9;"), "deafer()", 2);
        deafer.answers(PAIR, "deafer()", -1).answers(ONE, "deafer()", -1).answers(THREE, "deafer()", -1);
        // 1, 3, 5 are DEAF: a fourth may be; then 9 would cost nothing, but four are DEAF
        Run three = Run.of("array steps 4;element 0;element 6;look 0;deaf 1;deaf 3;deaf 5;");
        deafer.answers(three, "deafer()", 7).answers(three.then("deaf(7)"), "deafer()", -1);
        deafer.answers(TIGHT, "deafer()", -1);
        for (Run run : new Run[] {TWINNED, PAIR, three, TIGHT}) {
            deafer.unchanged(run, "deafer()");
        }
        unsolved(deafer, -2, "deafer()");
        Run full = Run.of("array steps 3;element 0;look 1;deaf 2;deaf 3;deaf 4;deaf 5;");
        deafer.refuses(full, -2, "deafer()");
    }

    private static void promise48() {
        Due.Sentence fewest = DUE.promise(48,
            "The fewest further DIRECTIONS (no WISHES) that as DEAF ones, too (four in all"
            + " at most), leave TRUE WEIGHTS by which POWERS of GAINS of all that are ASIDE then are above /"
            + " below (0 .. 99"
            + " by 1 .. 99) at most, what 0: how many (0: it is so), 1: the least such set of so few, as bits.");
        fewest.answers(ONE, "sealed(0, 1, 0)", 0, "sealed(0, 99, 1)", 0).answers(PAIR, "sealed(93, 99, 0)", 0);
        fewest.answers(TWINNED, "sealed(1, 2, 0)", 0, "sealed(1, 2, 1)", 0, "sealed(99, 99, 0)", 0);
        Run one = Run.of("array steps 8;element 5;element 3;element 2;element 1;element 9;look 7;deaf 11;");
        fewest.answers(one, "sealed(1, 3, 0)", 1, "sealed(1, 3, 1)", 4, "sealed(99, 1, 0)", 0);
        Run two = Run.of("array steps 5;element 5;element 0;element 9;element 6;look 8;deaf 9;");
        fewest.answers(two, "sealed(1, 3, 0)", 2, "sealed(1, 3, 1)", 132);
        // three further ones are four in all; with one more that is DEAF already (and costs nothing) they are too many
        Run four = Run.of("array steps 4;element 11;element 9;element 6;element 5;element 2;look 9;deaf 8;");
        fewest.answers(four, "sealed(27, 99, 0)", 3, "sealed(27, 99, 1)", 1160);
        fewest.answers(TIGHT, "sealed(99, 1, 0)", 0, "sealed(99, 1, 1)", 0);
        for (Run run : new Run[] {one, two, four, TIGHT}) {
            fewest.unchanged(run, "sealed(1, 3, 0)").unchanged(run, "sealed(0, 1, 1)");
        }
        Due.Sentence none = DUE.promise(48, "NONE: by none; -2 (other numbers, too).");
        none.answers(PAIR, "sealed(92, 99, 0)", -1, "sealed(92, 99, 1)", -1);
        none.answers(TWINNED, "sealed(49, 99, 0)", -1, "sealed(49, 99, 1)", -1).answers(TIGHT, "sealed(0, 1, 0)", -1);
        none.refuses(PAIR, -2, fractionsBeyond("sealed(?, 0)")).refuses(PAIR, -2, beyond("sealed(1, 2, ?)", 0, 1));
        none.refuses(ONE, -2, fractionsBeyond("sealed(?, 1)"));
        unsolved(none, -2, "sealed(0, 1, 0)", "sealed(99, 99, 1)");
    }

    private static void promise49() {
        Due.Sentence placed = DUE.promise(49, "Of all sets of n (1 .. 5) POSITIONS, ELEMENTS at each, none BROKEN, with"
            + " WISHES as they are, what 0: how many there are with TRUE WEIGHTS, 1: that with the least TOTAL,"
            + " of like ones"
            + " the least, as bits (NONE). -2: there are none such.");
        int[] sets = {12, 66, 220, 495, 792};
        for (int n = 1; n <= 5; n++) {
            // a LOOK alone: all sets are alike, whatever ELEMENTS there are
            for (Run run : new Run[] {ONE, BROKEN, Run.of("array steps 4;look 7;")}) {
                placed.answers(run, "placed(" + n + ", 0)", sets[n - 1], "placed(" + n + ", 1)", (1 << n) - 1);
            }
            for (Run run : new Run[] {NEW, BARE, LOOKLESS}) {
                placed.answers(run, "placed(" + n + ", 0)", 0, "placed(" + n + ", 1)", -1);
            }
            placed.unchanged(TIGHT, "placed(" + n + ", 0)").unchanged(BROKEN, "placed(" + n + ", 1)");
        }
        placed.answers(PAIR, "placed(1, 0)", 0, "placed(1, 1)", -1, "placed(2, 0)", 36, "placed(2, 1)", 3);
        // three that stand 4 apart hear the LOOK in one way and the DEAF ones in two others
        placed.answers(TIGHT, "placed(2, 0)", 0, "placed(2, 1)", -1, "placed(3, 0)", 4, "placed(3, 1)", 273);
        // wherever ELEMENTS stand now
        placed.answers(Run.of("array steps 4;element 7;broken 3;element 10;look 0;deaf 6;"), "placed(1, 0)", 0,
            "placed(2, 0)", 36, "placed(2, 1)", 3, "placed(1, 1)", -1);
        // 0, 1, 6 would be, if y of TOTALS did not count
        placed.answers(Run.of("array steps 4;element 7;look 0;deaf 1;deaf 3;"), "placed(3, 0)", 216, "placed(3, 1)",
            37);
        for (Run run : new Run[] {NEW, BARE, TIGHT, OVER}) {
            placed.refuses(run, -2, beyond("placed(?, 0)", 1, 5)).refuses(run, -2, beyond("placed(5, ?)", 0, 1));
        }
    }

    private static void promise50() {
        Due.Sentence better = DUE.promise(50,
            "The POSITION (its own, too, or one where no ELEMENT is) at which an ELEMENT"
            + " makes TOTAL least, others as they are, of like ones the least. NONE: there are TRUE WEIGHTS by"
            + " none; -2:"
            + " there is none such, it is BROKEN.");
        // all are alike: the least that is free, or its own; a BROKEN one stands where it stands
        better.answers(ONE, "better(0)", 0).answers(TWINNED, "better(0)", 0, "better(1)", 1);
        better.answers(Run.of("array steps 8;element 11;element 0;look 6;"), "better(0)", 1, "better(1)", 0);
        better.answers(Run.of("array steps 8;broken 0;element 4;look 6;"), "better(1)", 1);
        better.answers(Run.of("array steps 8;broken 0;element 1;element 2;broken 3;look 6;"), "better(1)", 1,
            "better(2)", 2);
        better.answers(Run.of("array steps 8;element 2;element 7;look 3;deaf 1;"), "better(0)", 4, "better(1)", 5);
        // 0 would be best, but one stands there, BROKEN or not; there is no 12 in its place
        better.answers(Run.of("array steps 3;broken 0;element 2;element 6;look 5;deaf 6;"), "better(1)", 1);
        better.answers(Run.of("array steps 3;element 0;element 6;element 2;look 4;deaf 5;deaf 7;"), "better(2)", 1);
        // 2 would be, if y of TOTALS did not count
        better.answers(Run.of("array steps 7;element 9;element 8;element 1;look 4;deaf 9;"), "better(2)", 0);
        better.answers(OVER, "better(0)", -1).answers(LOOKLESS, "better(1)", -1);
        // there are none now, but elsewhere there would be
        better.answers(Run.of("array steps 8;element 0;element 6;look 0;deaf 2;"), "solved()", 0, "better(0)", 3);
        better.answers(BROKEN, "better(0)", -2, "better(1)", -2);
        better.refuses(PAIR, -2, beyond("better(?)", 0, 1)).refuses(TIGHT, -2, beyond("better(?)", 0, 4));
        better.refuses(NEW, -2, "better(0)").refuses(BARE, -2, "better(0)").refuses(BROKEN, -2, "better(1)");
        better.unchanged(PAIR, "better(1)").unchanged(TWINNED, "better(0)").unchanged(OVER, "better(0)");
    }

    private static void promise51() {
        Due.Sentence both = DUE.promise(51,
            "times q (-9 .. 9 each), what 0 .. 3: a .. d, 4: the lower number. NO_SUCH (for"
            + " both there must be such).");
        both.tells(PAIR, "both(6, 9, -9, 6, what)", -9, 0, 0, 0, 1, NO_SUCH);
        both.tells(PAIR, "both(6, -9, 9, 6, what)", 9, 0, 0, 0, 1, NO_SUCH);
        both.tells(PAIR, "both(6, 9, 9, 0, what)", 9, 0, 0, 0, 1, NO_SUCH);
        both.tells(PAIR, "both(11, 0, 0, 11, what)", 0, 0, 0, 0, 1, NO_SUCH);
        both.tells(PAIR, "both(0, 1, 0, 3, what)", 1, 0, 0, 1, 2, NO_SUCH);
        both.refuses(PAIR, NO_SUCH, beyond("both(?, 1, 1, 0, 0)", 0, 11));
        both.refuses(PAIR, NO_SUCH, beyond("both(0, ?, 1, 0, 0)", -9, 9));
        both.refuses(PAIR, NO_SUCH, beyond("both(0, 1, ?, 0, 0)", -9, 9));
        both.refuses(PAIR, NO_SUCH, beyond("both(0, 1, 1, ?, 0)", 0, 11));
        both.refuses(PAIR, NO_SUCH, beyond("both(0, 1, 1, 0, ?)", 0, 4));
        // 5 and 9 are TWINS of 1, which is DEAF: for these there are none
        Run twins = Run.of("array steps 4;element 0;element 3;look 0;deaf 1;");
        both.refuses(twins, NO_SUCH, "both(5, 1, 0, 0, 0)", "both(9, 1, 1, 0, 4)", "both(5, 0, 0, 0, 0)");
        both.answers(twins, "both(4, 1, 1, 0, 0)", 2, "both(1, 1, 1, 0, 4)", 2);
        both.unchanged(twins, "both(1, 9, 9, 0, 0)").unchanged(PAIR, "both(6, 9, -9, 6, 0)");
        // for another LOOK there are such, for this there are none
        both.refuses(OVER, NO_SUCH, "both(2, 1, 1, 0, 0)", "both(2, 0, 1, 0, 4)");
        unsolved(both, NO_SUCH, "both(0, 1, 1, 0, 0)", "both(2, 0, 0, 11, 4)");
    }

    private static void promises52And53() {
        Due.Sentence text = DUE.promise(52,
            "a, b, c, d that are not 0, in this order, each as its number without sign, then"
            + " z, zz, zzz behind (b, c, d; of these 1 is left out), a + or - between, - alone ahead of the"
            + " first, if it is"
            + " below 0; 0 for all of these 0; then / and the lower number, if it is not 1.");
        text.writes(ONE, 0, "1").writes(PAIR, 0, "1/2").writes(TWINNED, 1, "-zzz/2").writes(THREE, 1, "0");
        text.writes(PAIR.then("hear(6)", "breaks(0)"), 0, "0").writes(PAIR.then("hear(6)", "breaks(0)"), 1, "1");
        // alone at POSITION 1 an ELEMENT weighs z to the 12 - K
        String[] alone = {"1", "z-zzz", "1-zz", "-zzz", "-zz", "-z", "-1", "-z+zzz", "-1+zz", "zzz", "zz", "z"};
        for (int k = 0; k < 12; k++) {
            text.writes(Run.of("array steps 3;element 1;look " + k + ";"), 0, alone[k]);
        }
        Run next = Run.of("array steps 3;element 0;element 1;look 1;deaf 0;");
        text.writes(next, 0, "zz+zzz").writes(next, 1, "-zz-zzz");
        Run full = Run.of("array steps 7;element 0;element 1;element 3;element 7;element 8;look 2;deaf 3;deaf 7;"
            + "deaf 10;");
        text.writes(full, 1, "21+13z-29zz+6zzz/156").writes(full, 2, "-8+2z-5zz-4zzz/78");
        text.writes(Run.of("array steps 24;element 5;element 4;element 10;element 6;element 1;look 11;deaf 0;"
            + "deaf 10;"), 1,
            "-1760+505z+1760zz-1010zzz/7177");
        // numbers of one sign and of several, at the tens
        text.writes(Run.of("array steps 1;element 3;element 4;look 7;deaf 8;"), 0, "1+z");
        text.writes(Run.of("array steps 8;element 0;element 6;element 9;element 7;look 9;deaf 1;"), 0, "2-zz/9");
        text.writes(Run.of("array steps 8;element 7;element 6;element 4;look 2;deaf 9;"), 0, "10-7z-7zz-zzz/22");
        text.writes(Run.of("array steps 2;element 0;element 5;element 4;element 3;look 2;deaf 9;deaf 7;"), 3,
            "8-98z+49zzz/242");
        text.writes(Run.of("array steps 2;element 3;element 7;element 1;element 0;element 4;look 0;deaf 1;deaf 3;"), 2,
            "550+22z-58zz+100zzz/1633");
        Due.Sentence stays = DUE.promise(52, "-2: there is none such (OUT stays).");
        Run told = TWINNED.then("tell(1)");
        stays.refuses(told, -2, beyond("tell(?)", 0, 1)).refuses(TIGHT, -2, beyond("tell(?)", 0, 4));
        unsolved(stays, -2, "tell(0)", "tell(-1)");
        // OUT stays, too, where TRUE WEIGHTS are no more
        stays.refuses(told.then("breaks(0)", "breaks(1)"), -2, "tell(0)", "tell(1)");
        stays.answers(told.then("breaks(0)", "breaks(1)"), "tell(1)", -2, "count(8)", 6, "octet(0)", 45, "octet(5)",
            50);

        Due.Sentence octet = DUE.promise(53, "Byte i of OUT. NONE: there is none such.");
        octet.tells(told, "octet(what)", '-', 'z', 'z', 'z', '/', '2', -1, -1);
        octet.refuses(told, -1, beyond("octet(?)", 0, 5));
        // a shorter text leaves nothing of the longer
        octet.answers(told, "tell(0)", 3, "octet(2)", '2', "octet(3)", -1, "octet(5)", -1, "count(8)", 3);
        for (Run run : new Run[] {NEW, PAIR, OVER}) {
            octet.refuses(run, -1, "octet(0)", "octet(-1)", "octet(MIN)", "octet(MAX)");
        }
    }

    /** What was asked ahead of a change leaves nothing. */
    private static void askedAhead(Due.Sentence sentence, String... changes) {
        for (Run run : new Run[] {THREE, TIGHT, TWINNED.then("breaks(0)"), OVER, LOOKLESS}) {
            for (String change : changes) {
                sentence.same(run.then(change), run.then(QUESTIONS).then(change));
            }
        }
    }

    private static void promises54And55() {
        Due.Sentence breaks = DUE.promise(54, "how many are not BROKEN. -2: there is none such; -5: it is.");
        breaks.answers(THREE, "breaks(2)", 2, "breaks(0)", 1, "breaks(1)", 0, "count(1)", 0, "count(0)", 3);
        breaks.answers(TIGHT, "breaks(4)", 4, "element(4, 1)", 1, "element(3, 1)", 0);
        breaks.refuses(THREE, -2, beyond("breaks(?)", 0, 2)).refuses(TIGHT, -2, beyond("breaks(?)", 0, 4));
        breaks.refuses(NEW, -2, "breaks(0)").refuses(BARE, -2, "breaks(0)");
        breaks.refuses(BROKEN, -5, "breaks(0)", "breaks(1)").refuses(MIXED, -5, "breaks(1)");
        breaks.refuses(BROKEN, -2, beyond("breaks(?)", 0, 1)).refuses(TIGHT.then("breaks(4)"), -5, "breaks(4)");

        askedAhead(breaks, "breaks(0)", "breaks(1)");

        Due.Sentence mends = DUE.promise(55, "It is mended: likewise; -5: it is not.");
        mends.answers(BROKEN, "mends(1)", 1, "mends(0)", 2, "count(1)", 2, "solved()", 1);
        mends.refuses(BROKEN, -2, beyond("mends(?)", 0, 1)).refuses(TIGHT, -2, beyond("mends(?)", 0, 4));
        mends.refuses(NEW, -2, "mends(0)").refuses(BARE, -2, "mends(0)");
        mends.refuses(THREE, -5, "mends(0)", "mends(2)").refuses(MIXED, -5, "mends(0)", "mends(2)");
        mends.refuses(BROKEN.then("mends(0)"), -5, "mends(0)");
        askedAhead(mends, "mends(0)", "mends(1)");
        mends.same(THREE, THREE.then("breaks(1)", "mends(1)")).same(TIGHT, TIGHT.then("breaks(4)", "mends(4)"));
    }

    private static void promise56() {
        Due.Sentence moves = DUE.promise(56, "that where it was. -2: there are none such; -5: there is one (it itself,"
            + " too).");
        moves.answers(PAIR, "moves(0, 11)", 0, "element(0, 0)", 11, "moves(0, 0)", 11, "moves(1, 2)", 1);
        moves.answers(MIXED, "moves(1, 0)", 4, "element(1, 0)", 0, "element(1, 1)", 1, "moves(0, 4)", 2);
        moves.refuses(PAIR, -2, beyond("moves(?, 5)", 0, 1)).refuses(PAIR, -2, beyond("moves(1, ?)", 0, 11));
        // there are none such, even where one stands
        moves.refuses(PAIR, -2, "moves(2, 0)", "moves(-1, 1)", "moves(MIN, 0)", "moves(MAX, 1)", "moves(2, 12)");
        moves.refuses(PAIR, -5, "moves(0, 0)", "moves(0, 1)", "moves(1, 0)", "moves(1, 1)");
        // one that is BROKEN stands there, too
        moves.refuses(BROKEN, -5, "moves(0, 0)", "moves(0, 11)", "moves(1, 0)", "moves(1, 11)");
        moves.refuses(MIXED, -5, "moves(0, 4)", "moves(1, 4)", "moves(2, 4)", "moves(1, 2)", "moves(1, 11)");
        moves.refuses(NEW, -2, "moves(0, 0)", "moves(0, 11)").refuses(BARE, -2, "moves(0, 0)");
        moves.same(PAIR, PAIR.then("moves(1, 7)", "moves(1, 1)"));
        askedAhead(moves, "moves(0, 11)", "moves(1, 6)");
        // nobody is left where one was: another may go there
        moves.answers(PAIR.then("moves(0, 11)"), "moves(1, 0)", 1);
    }

    private static void promise57() {
        Due.Sentence look = DUE.promise(57,
            "(one that is DEAF is so no more): which it was (NONE). -2: there is none such,"
            + " no ARRAY; -5: it is.");
        look.answers(BARE, "look(0)", -1, "look(11)", 0, "look(0)", 11);
        look.answers(LOOKLESS, "look(2)", -1, "count(3)", 2, "count(4)", 0, "count(5)", 1, "wish(0, 0)", 2);
        // DEAF ones behind the one that is DEAF no more come nearer
        look.answers(TIGHT, "look(2)", 0, "count(4)", 50, "wish(0, 0)", 2, "wish(1, 0)", 1, "wish(2, 0)", 4,
            "wish(3, 0)", 5, "wish(4, 0)", -2);
        look.answers(TIGHT, "look(5)", 0, "count(4)", 22, "look(1)", 5, "count(4)", 20, "look(0)", 1, "count(4)", 20);
        look.refuses(PAIR, -5, "look(0)").refuses(BROKEN, -5, "look(2)").refuses(ONE.then("look(11)"), -5, "look(11)");
        look.refuses(PAIR, -2, beyond("look(?)", 0, 11)).refuses(BARE, -2, beyond("look(?)", 0, 11));
        look.refuses(NEW, -2, "look(0)", "look(11)", "look(-1)", "look(12)");
        look.refuses(PAIR.then("array()"), -2, "look(0)", "look(1)");
        askedAhead(look, "look(3)", "look(2)", "look(11)");
    }

    private static void promise58() {
        Due.Sentence deaf = DUE.promise(58,
            "A DIRECTION is DEAF, behind all others: how many are. -2: there is none such, no"
            + " ARRAY; -5: it is, it is the LOOK, there are four.");
        deaf.answers(BARE, "deaf(11)", 1, "deaf(0)", 2, "deaf(5)", 3, "wish(0, 0)", 11, "wish(1, 0)", 0, "wish(2, 0)",
            5,
            "deaf(1)", 4, "wish(3, 0)", 1, "deaf(2)", -5, "count(5)", 4);
        deaf.answers(PAIR, "deaf(1)", 2, "wish(2, 0)", 1, "hear(6)", 1, "deaf(6)", 2, "wish(1, 0)", 1, "wish(2, 0)", 6);
        deaf.refuses(PAIR, -5, "deaf(6)", "deaf(0)").refuses(TIGHT, -5, "deaf(0)", "deaf(1)", "deaf(5)", "deaf(11)");
        deaf.refuses(PAIR, -2, beyond("deaf(?)", 0, 11)).refuses(TIGHT, -2, beyond("deaf(?)", 0, 11));
        deaf.refuses(NEW, -2, "deaf(0)", "deaf(11)", "deaf(-1)");
        deaf.refuses(TIGHT.then("array()"), -2, "deaf(0)", "deaf(6)");
        askedAhead(deaf, "deaf(3)", "deaf(7)", "deaf(11)");
        // one of four is DEAF no more, so one may be again
        deaf.answers(TIGHT.then("look(2)"), "deaf(2)", -5, "deaf(11)", 4, "deaf(10)", -5);
        deaf.answers(TIGHT.then("hear(5)"), "deaf(11)", 4, "deaf(5)", -5);
    }

    private static void promises59And60() {
        Due.Sentence hear = DUE.promise(59, "how many are. -2: there is none such, no ARRAY; -5: it is not.");
        hear.answers(TIGHT, "hear(5)", 3, "hear(1)", 2, "wish(1, 0)", 2, "wish(2, 0)", 4, "wish(3, 0)", -2, "hear(4)",
            1,
            "hear(2)", 0, "count(4)", 0, "count(3)", 0);
        hear.answers(BARE.then("deaf(0)", "deaf(11)"), "hear(11)", 1, "hear(0)", 0);
        hear.refuses(PAIR, -5, "hear(0)", "hear(1)", "hear(11)").refuses(BARE, -5, "hear(0)");
        hear.refuses(OVER, -5, "hear(1)");
        hear.refuses(PAIR.then("hear(6)"), -5, "hear(6)").refuses(PAIR, -2, beyond("hear(?)", 0, 11));
        hear.refuses(BARE, -2, beyond("hear(?)", 0, 11)).refuses(NEW, -2, "hear(0)", "hear(11)", "hear(12)");
        hear.refuses(PAIR.then("array()"), -2, "hear(6)");
        askedAhead(hear, "hear(2)", "hear(3)", "hear(5)");
        DUE.promise(59, "It is DEAF no more").same(PAIR, PAIR.then("deaf(3)", "hear(3)"));

        Due.Sentence steps = DUE.promise(60, "STEPS are told: which they were. -2: there are none such, no ARRAY.");
        steps.answers(PAIR, "steps(1)", 10, "steps(99)", 1, "steps(99)", 99, "steps(1)", 99, "count(2)", 1,
            "cut(0, 0)", 1);
        steps.refuses(PAIR, -2, beyond("steps(?)", 1, 99)).refuses(BARE, -2, beyond("steps(?)", 1, 99));
        steps.refuses(NEW, -2, "steps(1)", "steps(99)", "steps(0)", "steps(100)");
        steps.refuses(PAIR.then("array()"), -2, "steps(1)", "steps(10)");
        steps.same(PAIR, PAIR.then("steps(99)", "steps(10)"));
        askedAhead(steps, "steps(1)", "steps(7)", "steps(99)");
    }
}
