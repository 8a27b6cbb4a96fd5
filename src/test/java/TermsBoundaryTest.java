/** The boundary cases that the document's Terms name, and those of its head. */
public final class TermsBoundaryTest {
    private static final long NO_SUCH = Long.MIN_VALUE;
    private static final String FIRST = "array steps 3;";
    private static final String FIVE = FIRST + "element 0;broken 1;element 2;element 3;broken 4;";
    private static final Run NEW = Run.none();
    private static final Run ARRAY = Run.of("array steps 8;element 4;broken 6;element 7;look 2;deaf 9;"
        + "").then("tell(0)");
    private static final Due DUE = new Due();

    public static void main(String[] args) {
        lines();
        firstLine();
        steps();
        elements();
        positions();
        wishes();
        directions();
        blanks();
        tokens();
        longestTokens();
        faultsByPlace();
        faultsOfOnePlace();
        faultsOfKinds();
        lowestTerms();
        powersAreCompared();
        weightsOfBroken();
        trueWeights();
        rankAndLost();
        halves();
        twinsAndAside();
        constants();
        lastCall();
        DUE.requireEdgesOf("Terms");
        DUE.finish();
    }

    /** A TEXT without a FAULT: so many LINES. */
    private static void fine(Due.Sentence sentence, String text, int lines) {
        sentence.answers(NEW.fed(text), "array()", lines, "fault(0)", 0, "fault(1)", -1, "count(6)", lines);
    }

    /** A TEXT with a FAULT: nothing of it is taken, by an object with an ARRAY and by one without. */
    private static void faulty(Due.Sentence sentence, String text, int fault, int place) {
        for (Run run : new Run[] {NEW, ARRAY}) {
            sentence.answers(run.fed(text), "array()", -4, "fault(0)", fault, "fault(1)", place, "count(7)", 0);
            sentence.same(run, run.told(text), "fault(0)", "fault(1)");
        }
    }

    // ---- I ----

    private static void lines() {
        Due.Sentence sentence = DUE.terms("TEXT: {LINE ;}. LINE: array steps Q | element P | broken P | look K"
            + " | deaf K.");
        fine(sentence, "", 0);
        fine(sentence, " \n ", 0);
        fine(sentence, "array steps 3;", 1);
        fine(sentence, FIVE + "look 0;deaf 1;deaf 2;deaf 3;deaf 4;", 11);
        faulty(sentence, "array steps 3", 1, 13);
        faulty(sentence, ";", 1, 0);
        faulty(sentence, "array steps 3;;", 1, 14);
        faulty(sentence, "array;", 1, 5);
        faulty(sentence, "array 3;", 1, 6);
        faulty(sentence, "array steps;", 1, 11);
        faulty(sentence, "array steps steps 3;", 1, 12);
        faulty(sentence, "array steps 3 4;", 1, 14);
        for (String word : new String[] {"element", "broken", "look", "deaf"}) {
            fine(sentence, FIRST + word + " 3;", 2);
            int behind = 14 + word.length();
            faulty(sentence, FIRST + word, 1, behind);
            faulty(sentence, FIRST + word + ";", 1, behind);
            faulty(sentence, FIRST + word + " 3", 1, behind + 2);
            faulty(sentence, FIRST + word + " 3 4;", 1, behind + 3);
            faulty(sentence, FIRST + word + " look;", 1, behind + 1);
        }
    }

    private static void firstLine() {
        Due.Sentence sentence = DUE.terms("array is the first LINE and no other");
        fine(sentence, FIRST + "look 3;", 2);
        for (String word : new String[] {"element", "broken", "look", "deaf", "steps"}) {
            faulty(sentence, word + " 3;" + FIRST, 1, 0);
        }
        faulty(sentence, FIRST + FIRST, 1, 14);
        faulty(sentence, FIRST + "look 3;" + FIRST, 1, 21);
    }

    private static void steps() {
        Due.Sentence sentence = DUE.terms("STEPS Q 1 .. 99");
        faulty(sentence, "array steps 0;", 2, 12);
        sentence.answers(Run.of("array steps 1;"), "count(2)", 1);
        sentence.answers(Run.of("array steps 99;"), "count(2)", 99);
        faulty(sentence, "array steps 100;", 2, 12);
        faulty(sentence, "array steps 101;", 2, 12);
        faulty(sentence, "array steps 999;", 2, 12);
        // numbers that would be in bounds if they went around: 2 to the 32 and to the 64, and 1 more
        faulty(sentence, "array steps 4294967297;", 2, 12);
        faulty(sentence, "array steps 18446744073709551617;", 2, 12);
        faulty(sentence, "array steps 2147483647;", 2, 12);
        faulty(sentence, "array steps 2147483648;", 2, 12);
        faulty(sentence, "array steps 1" + "0".repeat(270) + ";", 2, 12);
        sentence.answers(Run.of("array steps " + "0".repeat(270) + "99;"), "count(2)", 99);
        faulty(sentence, "array steps " + "0".repeat(270) + ";", 2, 12);
    }

    private static void elements() {
        Due.Sentence sentence = DUE.terms("ELEMENTS 0 .. 4 as they stand (element, broken: one that is BROKEN)");
        sentence.answers(Run.of(FIRST), "count(0)", 0, "element(0, 0)", -2);
        sentence.answers(Run.of(FIRST + "broken 7;"), "count(0)", 1, "element(0, 0)", 7, "element(0, 1)", 1,
            "element(1, 0)", -2);
        Run five = Run.of(FIRST + "element 9;broken 1;element 11;element 0;broken 4;");
        sentence.answers(five, "count(0)", 5, "count(1)", 3);
        int[][] stand = {{9, 0}, {1, 1}, {11, 0}, {0, 0}, {4, 1}};
        for (int i = 0; i < 5; i++) {
            sentence.answers(five, "element(" + i + ", 0)", stand[i][0], "element(" + i + ", 1)", stand[i][1]);
        }
        sentence.answers(five, "element(-1, 0)", -2, "element(5, 0)", -2);
    }

    private static void positions() {
        Due.Sentence sentence = DUE.terms("each at a POSITION P 0 .. 11, no two at one");
        for (String word : new String[] {"element", "broken"}) {
            int place = 15 + word.length();
            sentence.answers(Run.of(FIRST + word + " 0;"), "element(0, 0)", 0);
            sentence.answers(Run.of(FIRST + word + " 11;"), "element(0, 0)", 11);
            sentence.answers(Run.of(FIRST + word + " 00011;"), "element(0, 0)", 11);
            faulty(sentence, FIRST + word + " 12;", 2, place);
            faulty(sentence, FIRST + word + " 99;", 2, place);
            faulty(sentence, FIRST + word + " 4294967296;", 2, place);
            for (String other : new String[] {"element", "broken"}) {
                for (int position : new int[] {0, 5, 9}) {
                    String both = FIRST + word + " " + position + ";" + other + " ";
                    faulty(sentence, both + position + ";", 2, both.length());
                    fine(sentence, both + (position + 1) + ";", 3);
                }
            }
        }
        // a WISH may be like a POSITION
        fine(sentence, FIRST + "element 4;look 4;element 5;deaf 5;", 5);
    }

    private static void wishes() {
        Due.Sentence sentence = DUE.terms("look at most once, deaf four times at most");
        sentence.answers(Run.of(FIRST), "count(3)", -1, "count(4)", 0, "count(5)", 0);
        sentence.answers(Run.of(FIRST + "look 4;"), "count(3)", 4, "count(5)", 1);
        String four = FIRST + "deaf 0;deaf 11;deaf 2;deaf 3;";
        sentence.answers(Run.of(four), "count(4)", 1 + 2048 + 4 + 8, "count(5)", 4);
        sentence.answers(Run.of(four + "look 4;"), "count(4)", 1 + 2048 + 4 + 8, "count(5)", 5);
        faulty(sentence, FIRST + "look 4;look 5;", 3, 21);
        faulty(sentence, four + "deaf 4;", 3, four.length());
        faulty(sentence, four + "look 5;deaf 4;", 3, four.length() + 7);
    }

    private static void directions() {
        Due.Sentence sentence = DUE.terms("DIRECTIONS K 0 .. 11, no two alike");
        sentence.answers(Run.of(FIRST + "look 0;deaf 11;"), "count(3)", 0, "count(4)", 2048);
        sentence.answers(Run.of(FIRST + "deaf 0;look 11;"), "count(3)", 11, "count(4)", 1);
        for (String word : new String[] {"look", "deaf"}) {
            faulty(sentence, FIRST + word + " 12;", 2, 19);
            faulty(sentence, FIRST + word + " 99;", 2, 19);
            faulty(sentence, FIRST + word + " 4294967296;", 2, 19);
            for (int direction : new int[] {0, 6, 9}) {
                String once = FIRST + "deaf " + direction + ";" + word + " ";
                faulty(sentence, once + direction + ";", 2, once.length());
                fine(sentence, once + (direction + 1) + ";", 3);
            }
        }
        faulty(sentence, FIRST + "look 0;deaf 0;", 2, 26);
        faulty(sentence, FIRST + "deaf 1;deaf 2;deaf 3;deaf 3;", 2, 40);
    }

    private static void blanks() {
        Due.Sentence sentence = DUE.terms("TOKENS, blanks (32, 10) aside");
        fine(sentence, "\n array \n steps\n3 ;\n\n look  4\n; ", 2);
        for (int octet = 0; octet < 256; octet++) {
            String text = FIRST + (char) octet;
            if (octet == 32 || octet == 10) {
                fine(sentence, text, 1);
            } else {
                faulty(sentence, text, 1, 14);
            }
        }
    }

    private static void tokens() {
        Due.Sentence sentence = DUE.terms("words (a .. z), numbers (digits), the sign ;");
        for (int octet = 0; octet < 256; octet++) {
            char one = (char) octet;
            String text = "array steps" + one + "3;";
            if (octet == 32 || octet == 10 || octet >= '0' && octet <= '9') {
                int due = octet >= '0' ? (octet - '0') * 10 + 3 : 3;
                sentence.answers(NEW.fed(text), "array()", 1, "count(2)", due);
            } else {
                // a letter goes on with the word; all else is a TOKEN of its own
                faulty(sentence, text, 1, octet >= 'a' && octet <= 'z' ? 6 : 11);
            }
            String ended = "array steps 7" + one;
            if (octet == ';') {
                fine(sentence, ended, 1);
            } else if (octet >= '0' && octet <= '9' || octet == 32 || octet == 10) {
                faulty(sentence, ended, 1, 14);
            } else {
                faulty(sentence, ended, 1, 13);
            }
        }
    }

    private static void longestTokens() {
        Due.Sentence sentence = DUE.terms("the longest: words (a .. z)");
        fine(sentence, "array steps3;element4;look11;", 3);
        sentence.answers(Run.of("array steps 3;look 11;"), "count(3)", 11);
        faulty(sentence, "arraysteps 3;", 1, 0);
        faulty(sentence, "array steps 9 9;", 1, 14);
        faulty(sentence, "arr ay steps 3;", 1, 0);
        for (String word : new String[] {"element", "broken", "look", "deaf"}) {
            faulty(sentence, FIRST + word + "s 3;", 1, 14);
            faulty(sentence, FIRST + "a" + word + " 3;", 1, 14);
            faulty(sentence, FIRST + word.substring(0, word.length() - 1) + " 3;", 1, 14);
            faulty(sentence, FIRST + word.substring(1) + " 3;", 1, 14);
            faulty(sentence, FIRST + word.substring(0, 1) + " " + word.substring(1) + " 3;", 1, 14);
        }
        fine(sentence, FIRST + " ".repeat(286), 1);
        faulty(sentence, FIRST + "x".repeat(286), 1, 14);
    }

    private static void faultsByPlace() {
        Due.Sentence sentence = DUE.terms("FAULTS, the first by its place (a TOKEN's first byte; the end's)");
        faulty(sentence, "array steps 0;look 12;#", 2, 12);
        faulty(sentence, FIRST + "look 12 #", 2, 19);
        faulty(sentence, FIRST + "# look 12;", 1, 14);
        faulty(sentence, FIRST + "look 1;look 12;", 3, 21);
        faulty(sentence, FIRST + "look 12;look 1;look 2;", 2, 19);
        // ahead of the end's
        faulty(sentence, "array steps 100", 2, 12);
        faulty(sentence, FIRST + "look 1;look", 3, 21);
        // the first byte, behind blanks and of long TOKENS
        faulty(sentence, "   array steps   100 ;", 2, 17);
        faulty(sentence, "\n\nlook", 1, 2);
        // the end's is behind all bytes, blanks, too
        faulty(sentence, "array", 1, 5);
        faulty(sentence, "array \n ", 1, 8);
        faulty(sentence, FIRST + "look" + " ".repeat(282), 1, 300);
    }

    private static void faultsOfOnePlace() {
        Due.Sentence sentence = DUE.terms("of one place the least");
        // a number that is out of all bounds where none can stand
        faulty(sentence, "100;", 1, 0);
        faulty(sentence, FIRST + "100;", 1, 14);
        faulty(sentence, FIRST + "look 4 100;", 1, 21);
        // a sixth ELEMENT, a second look, a fifth deaf where its word cannot stand
        String full = FIVE.substring(0, FIVE.length() - 1);
        faulty(sentence, full + " element 5;", 1, full.length() + 1);
        faulty(sentence, FIRST + "look 4 look 5;", 1, 21);
        String four = FIRST + "deaf 0;deaf 1;deaf 2;deaf 3";
        faulty(sentence, four + " deaf 4;", 1, four.length() + 1);
        // a number that was told where none can stand
        faulty(sentence, FIRST + "look 4 4;", 1, 21);
    }

    private static void faultsOfKinds() {
        Due.Sentence none = DUE.terms("1 a TOKEN that is none, or can't stand there"
            + " (array behind the first LINE, another word ahead of it).");
        faulty(none, "Array steps 3;", 1, 0);
        faulty(none, "array steps -3;", 1, 12);
        faulty(none, FIRST + "look +3;", 1, 19);
        faulty(none, FIRST + "look 3,", 1, 20);
        faulty(none, FIRST + (char) 233 + ";", 1, 14);
        faulty(none, FIRST + "array steps 4;", 1, 14);
        faulty(none, FIRST + "look 1;array steps 4;", 1, 21);
        faulty(none, "element 1;" + FIRST, 1, 0);
        faulty(none, FIRST + "steps 4;", 1, 14);
        Due.Sentence bounds = DUE.terms("2 a number out of its bounds, a POSITION, a DIRECTION that was told.");
        faulty(bounds, "array steps 0;", 2, 12);
        faulty(bounds, FIRST + "element 12;", 2, 22);
        faulty(bounds, FIRST + "element 11;broken 11;", 2, 32);
        faulty(bounds, FIRST + "look 11;deaf 11;", 2, 27);
        Due.Sentence many = DUE.terms("3 a sixth ELEMENT, a second look, a fifth deaf, at its word.");
        for (String word : new String[] {"element", "broken"}) {
            faulty(many, FIVE + word + " 5;", 3, FIVE.length());
            faulty(many, FIVE + " " + word + " 12;", 3, FIVE.length() + 1);
            faulty(many, FIVE + word, 3, FIVE.length());
            faulty(many, FIVE + word + " #", 3, FIVE.length());
        }
        faulty(many, FIRST + "look 0; look 0;", 3, 22);
        faulty(many, FIRST + "look 0;look", 3, 21);
        String four = FIRST + "deaf 0;deaf 1;deaf 2;deaf 3;";
        faulty(many, four + "deaf 3;", 3, four.length());
        faulty(many, four + "deaf 12;", 3, four.length());
        fine(many, FIVE + "look 0;deaf 5;deaf 1;deaf 2;deaf 3;", 11);
    }

    // ---- II ----

    private static void lowestTerms() {
        Due.Sentence sentence = DUE.terms("lowest terms: the lower number above 0, nothing but 1 in all five"
            + " (0: by 1)");
        Run pair = Run.of("array steps 10;element 0;element 1;look 0;deaf 6;");
        sentence.tells(pair, "gain(6, what)", 0, 0, 0, 0, 1);
        sentence.tells(pair, "gain(0, what)", 1, 0, 0, 0, 1);
        sentence.tells(pair, "gain(3, what)", 1, 0, 0, 1, 2);
        sentence.tells(pair, "power(6, what)", 0, 0, 1);
        sentence.tells(pair, "share(1, what)", 0, 0, 0, 0, 1);
        sentence.tells(pair, "error(6, what)", 0, 0, 1);
        sentence.tells(pair, "both(0, 0, 0, 0, what)", 0, 0, 0, 0, 1);
        // parts below 0 alone: the lower number stays above 0
        sentence.tells(Run.of("array steps 3;element 0;element 3;look 1;"), "weight(1, what)", 0, 0, 0, -1, 2);
        // the greatest lower number that there is
        Run great = Run.of("array steps 1;element 0;element 1;element 4;element 5;element 7;look 0;deaf 5;deaf 10;");
        sentence.tells(great, "weight(4, what)", 2165, -395, -1319, 755, 7177);
    }

    private static void powersAreCompared() {
        Due.Sentence sentence = DUE.terms("lowest terms; compared as what they are");
        // (146 - 77 r) / 1250 and (75 - 36 r) / 1250 are 0.00001 apart: nearer than any other two
        Run near = Run.of("array steps 1;element 0;element 1;element 3;element 4;element 7;look 0;deaf 5;deaf 6;");
        sentence.tells(near, "power(7, what)", 146, -77, 1250);
        sentence.tells(near, "power(2, what)", 75, -36, 1250);
        sentence.answers(near, "louder(7, 2)", -1, "louder(2, 7)", 1, "louder(7, 7)", 0);
        // (14222 - 8211 r) / 7442 is 0.00002 above 0: above no bound but 0
        Run faint = Run.of("array steps 1;element 0;element 2;element 3;element 4;element 6;look 0;deaf 2;deaf"
            + " 5;deaf 7;");
        sentence.tells(faint, "power(10, what)", 14222, -8211, 7442);
        sentence.answers(faint, "louder(10, 2)", 1, "louder(2, 10)", -1);
    }

    private static void weightsOfBroken() {
        Due.Sentence sentence = DUE.terms("WEIGHTS: a NUMBER of each ELEMENT, 0 of a BROKEN one");
        Run run = Run.of("array steps 7;broken 5;element 0;broken 6;look 1;deaf 2;").then("hear(2)");
        sentence.tells(run, "weight(0, what)", 0, 0, 0, 0, 1);
        sentence.tells(run, "weight(1, what)", 1, 0, 0, 0, 1);
        sentence.tells(run, "weight(2, what)", 0, 0, 0, 0, 1);
        sentence.answers(run, "cut(0, 0)", 0, "cut(1, 0)", 7, "cut(2, 0)", 0);
    }

    // ---- III ----

    private static void trueWeights() {
        Due.Sentence sentence = DUE.terms("with the least sum of their POWERS (TOTAL); there is one such, or none"
            + " (without a LOOK, too)");
        // of many weights by which all WISHES are so the least: a fifth each
        Run five = Run.of(FIRST + "element 0;element 1;element 2;element 3;element 4;look 0;");
        sentence.tells(five, "weight(4, what)", 1, 0, 0, 0, 5);
        sentence.tells(five, "total(what)", 1, 0, 5);
        sentence.answers(Run.of(FIRST + "element 0;"), "solved()", 0, "weight(0, 0)", NO_SUCH, "total(0)", NO_SUCH);
        sentence.answers(Run.of(FIRST + "element 0;deaf 1;"), "solved()", 0, "weight(0, 0)", NO_SUCH);
        sentence.answers(Run.of(FIRST + "look 0;"), "solved()", 0, "total(0)", NO_SUCH);
        sentence.answers(Run.of(FIRST + "broken 0;look 0;"), "solved()", 0, "weight(0, 0)", NO_SUCH);
        sentence.answers(Run.of(FIRST + "element 0;look 0;"), "solved()", 1);
        sentence.answers(Run.of(FIRST + "element 0;look 0;deaf 1;"), "solved()", 0);
        sentence.answers(Run.of(FIRST + "element 0;element 1;look 0;deaf 1;"), "solved()", 1);
        sentence.answers(Run.of(FIRST + "element 0;element 1;look 0;deaf 1;deaf 2;"), "solved()", 0);
    }

    private static void rankAndLost() {
        Due.Sentence rows = DUE.terms("The ROW of a WISH: by what the ELEMENTS that are not BROKEN hear it."
            + " RANK: of all these ROWS.");
        rows.answers(Run.of(FIRST), "rank()", 0);
        rows.answers(Run.of(FIRST + "element 0;"), "rank()", 0);
        rows.answers(Run.of(FIRST + "look 0;deaf 1;"), "rank()", 0);
        rows.answers(Run.of(FIRST + "broken 0;broken 1;look 0;deaf 1;"), "rank()", 0);
        rows.answers(Run.of(FIRST + "broken 0;element 1;look 0;deaf 1;"), "rank()", 1);
        rows.answers(Run.of(FIRST + "element 0;element 1;look 0;deaf 1;"), "rank()", 2);
        Due.Sentence lost = DUE.terms("LOST is a WISH whose ROW is a sum of NUMBERS times ROWS of WISHES ahead.");
        // the first has none ahead: a ROW that is not empty is not LOST; an empty one is
        lost.answers(Run.of(FIRST + "element 0;deaf 1;"), "wish(0, 1)", 0);
        lost.answers(Run.of(FIRST + "deaf 1;"), "wish(0, 1)", 1);
        lost.answers(Run.of(FIRST + "broken 0;look 1;"), "wish(0, 1)", 1);
        // the LOOK is ahead of DEAF ones that were told ahead of it: these are LOST, not it
        lost.answers(Run.of(FIRST + "element 0;deaf 1;look 2;"), "wish(0, 0)", 2, "wish(0, 1)", 0, "wish(1, 1)", 1);
        lost.answers(Run.of(FIRST + "element 0;element 1;look 2;deaf 5;deaf 9;"), "wish(1, 1)", 0, "wish(2, 1)", 1);
    }

    // ---- IV ----

    private static void halves() {
        Due.Sentence sentence = DUE.terms("to the nearest whole number, a half upward");
        // WEIGHTS are 1/2 and -1/2 z z z
        Run halves = Run.of("array steps 1;element 0;element 3;look 1;");
        int[][] cuts = {{1, 1, 0}, {2, 1, -1}, {3, 2, -1}, {4, 2, -2}, {5, 3, -2}, {98, 49, -49}, {99, 50, -49}};
        for (int[] one : cuts) {
            sentence.answers(halves.then("steps(" + one[0] + ")"), "cut(0, 0)", one[1], "cut(1, 3)", one[2]);
        }
        // thirds: 1/3 is below a half, 2/3 above it, and so below 0: -1/3 z z z
        Run thirds = Run.of("array steps 1;element 0;element 3;element 6;look 1;");
        int[][] parts = {{1, 0, 0}, {2, 1, -1}, {3, 1, -1}, {4, 1, -1}, {5, 2, -2}};
        for (int[] one : parts) {
            sentence.answers(thirds.then("steps(" + one[0] + ")"), "cut(0, 0)", one[1], "cut(1, 3)", one[2],
                "cut(2, 0)", -one[1]);
        }
    }

    private static void twinsAndAside() {
        Due.Sentence twins = DUE.terms("TWINS are DIRECTIONS that ELEMENTS that are not BROKEN hear alike but for one"
            + " factor.");
        twins.answers(Run.of(FIRST + "look 3;"), "twins(0)", 4095);
        twins.answers(Run.of(FIRST + "broken 3;broken 4;"), "twins(11)", 4095);
        twins.answers(Run.of(FIRST + "element 3;broken 4;"), "twins(11)", 4095);
        twins.answers(Run.of(FIRST + "element 3;element 4;"), "twins(11)", 2048);
        twins.answers(Run.of(FIRST + "element 11;element 5;"), "twins(11)", 2730, "twins(0)", 1365);
        Due.Sentence aside = DUE.terms("ASIDE are DIRECTIONS that are no WISH and no TWINS of the LOOK.");
        aside.answers(Run.of(FIRST + "element 3;look 0;"), "side()", -1, "bounded(0, 1)", 1);
        // TWINS of the LOOK are as loud as it, but not ASIDE; of the odd ones two are no WISHES
        Run odd = Run.of(FIRST + "element 0;element 6;look 0;deaf 1;deaf 3;deaf 5;deaf 7;");
        aside.answers(odd, "power(2, 0)", 1, "side()", 9, "bounded(0, 1)", 1);
    }

    private static void constants() {
        Due.Sentence sentence = DUE.terms("`NO_SUCH = Long.MIN_VALUE`: What is told for none such, and where there are"
            + " no TRUE WEIGHTS.");
        sentence.check(NEW, "NONE", DeafArray.NONE, -1);
        sentence.check(NEW, "NO_SUCH", DeafArray.NO_SUCH, Long.MIN_VALUE);
        for (String text : new String[] {"", FIRST, FIRST + "element 0;", FIRST + "broken 0;look 0;"}) {
            Run run = Run.of(text);
            for (String call : new String[] {"weight(0, 0)", "gain(0, 0)", "power(0, 0)", "total(0)", "share(0, 0)",
                "leak(0, 0, 0)", "cut(0, 0)", "cutGain(0, 0)", "cutPower(0, 0)", "error(0, 0)", "polish(1, 0)",
                "both(0, 1, 1, 0, 0)"}) {
                sentence.refuses(run, NO_SUCH, call);
            }
        }
    }

    // ---- the head ----

    private static void lastCall() {
        Due.Sentence sentence = DUE.head("An object is used for at most 512 calls after it has been made");
        // each round leaves the array as it was
        Calls calls = Run.of("array steps 10;element 0;element 1;look 0;deaf 6;").start();
        while (calls.used() + 11 <= Calls.MOST - 1) {
            String[] round = {"breaks(0)", "solved()", "mends(0)", "moves(1, 7)", "placed(2, 1)", "moves(1, 1)",
                "look(6)", "deaf(0)", "look(0)", "deaf(6)", "sealed(1, 3, 0)"};
            long[] due = {1, 0, 2, 1, 3, 7, 0, 1, 6, 1, -1};
            for (int i = 0; i < round.length; i++) {
                sentence.check(NEW, round[i] + ", a late call", calls.answer(round[i]), due[i]);
            }
        }
        while (calls.used() < Calls.MOST - 1) {
            sentence.check(NEW, "solved(), a late call", calls.answer("solved()"), 1);
        }
        sentence.check(NEW, "the 512th call", calls.answer("power(2, 0)"), 3);
    }
}
