/** Each promise of the document with ordinary inputs, the edges that it names, and wrong inputs. */
public final class PromisesTest {
    private static final long NO_SUCH = Long.MIN_VALUE;
    /** Two ELEMENTS, side by side: WEIGHTS are 1/2 each, POWERS (1 + cos) / 2. */
    private static final String PAIR = "array steps 10;element 0;element 1;look 0;deaf 6;";
    /** Three ELEMENTS: WEIGHTS 1/2, 0, 1/2: the middle one is spared. */
    private static final String THREE = "array steps 6;element 0;element 1;element 2;look 0;deaf 3;deaf 9;";
    /** No DEAF ones, two ELEMENTS that TWINS abound for. */
    private static final String TWINNED = "array steps 4;element 0;element 3;look 1;";
    /** Full: five ELEMENTS, a LOOK and three DEAF ones with WEIGHTS of every part. */
    private static final String FULL =
        "array steps 7;element 0;element 1;element 3;element 7;element 8;look 2;deaf 3;deaf 7;deaf 10;";
    /** Five WISHES by five ELEMENTS: nothing is left to choose. */
    private static final String TIGHT =
        "array steps 9;element 0;element 1;element 2;element 3;element 4;look 0;deaf 1;deaf 2;deaf 4;deaf 5;";

    private static int wrong;

    private static void due(int promise, String call, long got, long want) {
        if (got != want) {
            wrong++;
            System.out.println("promise " + promise + ": " + call + " answered " + got + ", due is " + want);
        }
    }

    private static int feedText(DeafArray x, String text) {
        int fed = 0;
        for (int at = 0; at < text.length(); at += 20) {
            int[] five = new int[5];
            for (int i = 0; i < 20; i++) {
                five[i / 4] = five[i / 4] << 8 | (at + i < text.length() ? text.charAt(at + i) : ' ');
            }
            fed = x.feed(five[0], five[1], five[2], five[3], five[4]);
        }
        return fed;
    }

    private static int read(DeafArray x, String text) {
        feedText(x, text);
        x.end(text.length());
        return x.array();
    }

    private static DeafArray made(String text) {
        DeafArray x = new DeafArray();
        if (read(x, text) < 0) {
            throw new IllegalStateException(text);
        }
        return x;
    }

    private static String told(DeafArray x, int element) {
        x.tell(element);
        StringBuilder text = new StringBuilder();
        for (int i = 0; i < x.count(8); i++) {
            text.append((char) x.octet(i));
        }
        return text.toString();
    }

    public static void main(String[] args) {
        promise1();
        promise2();
        promise3();
        promise4();
        promise5();
        promise6();
        promises7To9();
        promises10To12();
        promises13To15();
        promises16And17();
        promises18And19();
        promises20And21();
        promises22And23();
        promises24To26();
        promises27And28();
        promises29To32();
        promises33And34();
        promises35To37();
        promises38To40();
        promises41To43();
        promise44();
        promises45And46();
        promises47And48();
        promises49And50();
        promise51();
        promises52And53();
        promises54To56();
        promises57To60();
        withoutWeights();
        System.out.println(wrong == 0 ? "all promises hold" : wrong + " answers are not as due");
        if (wrong != 0) {
            System.exit(1);
        }
    }

    private static void promise1() {
        DeafArray x = new DeafArray();
        int[] counts = {0, 0, 0, -1, 0, 0, 0, 0, 0, -1};
        for (int i = 0; i < counts.length; i++) {
            due(1, "count(" + i + ")", x.count(i), counts[i]);
        }
        for (int k = 0; k < 12; k++) {
            due(1, "twins(" + k + ")", x.twins(k), 4095);
        }
        due(1, "sets()", x.sets(), 1);
        for (int n = 1; n <= 5; n++) {
            due(1, "placed(" + n + ", 0)", x.placed(n, 0), 0);
            due(1, "placed(" + n + ", 1)", x.placed(n, 1), -1);
        }
        due(1, "room(0)", x.room(0), 1);
        due(1, "room(1)", x.room(1), 0);
    }

    private static void promise2() {
        DeafArray x = new DeafArray();
        for (int i = 1; i <= 15; i++) {
            due(2, "feed, time " + i, x.feed(-1, 0, 1, 2, 3), 20 * i);
        }
        due(2, "feed beyond 300", x.feed(0, 0, 0, 0, 0), -1);
        due(2, "count(7)", x.count(7), 300);
        x.end(281);
        due(2, "feed from 281", x.feed(0, 0, 0, 0, 0), -1);
        x.end(280);
        due(2, "feed from 280", x.feed(0, 0, 0, 0, 0), 300);
        DeafArray y = new DeafArray();
        // the highest byte comes first
        y.feed(0x61727261, 0x79207374, 0x65707320, 0x37203b20, 0x20202020);
        due(2, "array()", y.array(), 1);
        due(2, "count(2)", y.count(2), 7);
    }

    private static void promise3() {
        DeafArray x = new DeafArray();
        due(3, "end(1)", x.end(1), -1);
        due(3, "end(0)", x.end(0), 0);
        x.feed(1, 2, 3, 4, 5);
        due(3, "end(-1)", x.end(-1), -1);
        due(3, "end(21)", x.end(21), -1);
        due(3, "count(7)", x.count(7), 20);
        due(3, "end(20)", x.end(20), 20);
        due(3, "end(3)", x.end(3), 3);
        due(3, "end(4)", x.end(4), -1);
        due(3, "count(7)", x.count(7), 3);
    }

    private static void promise4() {
        DeafArray x = made(FULL);
        due(4, "count(6)", x.count(6), 10);
        due(4, "count(7)", x.count(7), 0);
        due(4, "a FAULT", read(x, "array steps 3;look 12;"), -4);
        due(4, "count(7)", x.count(7), 0);
        due(4, "count(0)", x.count(0), 5);
        due(4, "count(2)", x.count(2), 7);
        due(4, "count(6)", x.count(6), 10);
        due(4, "solved()", x.solved(), 1);
        due(4, "another", read(x, " array\nsteps\n\n3;element3;look 0003 ; "), 3);
        due(4, "count(0)", x.count(0), 1);
        due(4, "count(3)", x.count(3), 3);
        due(4, "count(4)", x.count(4), 0);
        due(4, "blanks alone", read(x, " \n "), 0);
        due(4, "count(2)", x.count(2), 0);
        due(4, "count(0)", x.count(0), 0);
        due(4, "look(0)", x.look(0), -2);
        read(x, FULL);
        due(4, "none", x.array(), 0);
        due(4, "solved()", x.solved(), 0);
        due(4, "count(6)", x.count(6), 0);
        due(4, "steps 1", read(x, "array steps 1;"), 1);
        due(4, "steps 99", read(x, "array steps 99;"), 1);
    }

    private static void fault(String text, int what, int place) {
        DeafArray x = new DeafArray();
        due(5, text, read(x, text), -4);
        due(5, text + " fault(0)", x.fault(0), what);
        due(5, text + " fault(1)", x.fault(1), place);
    }

    private static void promise5() {
        DeafArray x = new DeafArray();
        due(5, "fault(0) ahead of any", x.fault(0), 0);
        due(5, "fault(1) ahead of any", x.fault(1), -1);
        due(5, "fault(2)", x.fault(2), -1);
        due(5, "fault(-1)", x.fault(-1), -1);
        fault("#", 1, 0);
        fault("  Array steps 3;", 1, 2);
        fault("array", 1, 5);
        fault("array  ", 1, 7);
        fault("array steps;", 1, 11);
        fault("arraysteps 3;", 1, 0);
        fault("array steps 0;", 2, 12);
        fault("array steps 100;", 2, 12);
        fault("array steps 99999999999999999999;", 2, 12);
        fault("array steps 18446744073709551617;", 2, 12);
        fault("array steps 3", 1, 13);
        fault("array steps 3;;", 1, 14);
        fault("array steps 3;5", 1, 14);
        fault("array steps 3;array steps 3;", 1, 14);
        fault("array steps 3;steps 3;", 1, 14);
        fault("look 3;", 1, 0);
        fault("array steps 3;elements 3;", 1, 14);
        fault("array steps 3;lookz 3;", 1, 14);
        fault("array steps 3;look`3;", 1, 18);
        fault("array steps 3;look{3;", 1, 18);
        fault("array steps 3;alook 3;", 1, 14);
        fault("array steps 3;loo 3;", 1, 14);
        fault("array steps 3;look/3;", 1, 18);
        fault("array steps 3;look:3;", 1, 18);
        fault("array steps 3;look -3;", 1, 19);
        fault("array steps 3;element 12;", 2, 22);
        fault("array steps 3;broken 12;", 2, 21);
        fault("array steps 3;element 3;broken 3;", 2, 31);
        fault("array steps 3;element look;", 1, 22);
        fault("array steps 3;look 12;", 2, 19);
        fault("array steps 3;deaf 4;deaf 4;", 2, 26);
        fault("array steps 3;deaf 4;look 4;", 2, 26);
        fault("array steps 3;look 4;deaf 4;", 2, 26);
        fault("array steps 3;look 4;look", 3, 21);
        fault("array steps 3;element 0;element 1;element 2;element 3;broken 4;element", 3, 63);
        fault("array steps 3;deaf 0;deaf 1;deaf 2;deaf 3;deaf", 3, 42);
        fault("array steps 3;deaf 0 1;", 1, 21);
        fault("array steps 3;deaf 0\t;", 1, 20);
        // a number's place counts ahead of the end's
        fault("array steps 3;look 99", 2, 19);
        read(x, "array steps 3;look 99");
        read(x, "array steps 3;");
        due(5, "fault(0) without", x.fault(0), 0);
        due(5, "fault(1) without", x.fault(1), -1);
    }

    private static void promise6() {
        DeafArray x = made("array steps 7;element 4;broken 9;deaf 11;look 2;deaf 3;");
        x.feed(0, 0, 0, 0, 0);
        int[] counts = {2, 1, 7, 2, 2048 + 8, 3, 6, 20, 0, -1};
        for (int i = 0; i < counts.length; i++) {
            due(6, "count(" + i + ")", x.count(i), counts[i]);
        }
        due(6, "count(-1)", x.count(-1), -1);
        DeafArray y = made(PAIR);
        y.tell(0);
        due(6, "count(8)", y.count(8), 3);
        due(6, "count(3) without", made("array steps 7;deaf 3;").count(3), -1);
        due(6, "count(5) without", made("array steps 7;deaf 3;").count(5), 1);
    }

    private static void promises7To9() {
        DeafArray x = made("array steps 7;element 4;broken 9;deaf 11;look 2;deaf 3;deaf 5;");
        due(7, "element(0, 0)", x.element(0, 0), 4);
        due(7, "element(1, 0)", x.element(1, 0), 9);
        due(7, "element(0, 1)", x.element(0, 1), 0);
        due(7, "element(1, 1)", x.element(1, 1), 1);
        due(7, "element(2, 0)", x.element(2, 0), -2);
        due(7, "element(-1, 0)", x.element(-1, 0), -2);
        due(7, "element(0, 2)", x.element(0, 2), -2);
        due(8, "hears(0, 5)", x.hears(0, 5), 8);
        due(8, "hears(1, 11)", x.hears(1, 11), 3);
        due(8, "hears(1, 12)", x.hears(1, 12), -2);
        due(8, "hears(2, 0)", x.hears(2, 0), -2);
        due(8, "hears(0, -1)", x.hears(0, -1), -2);
        int[] wishes = {2, 11, 3, 5};
        for (int i = 0; i < 4; i++) {
            due(9, "wish(" + i + ", 0)", x.wish(i, 0), wishes[i]);
            // one ELEMENT is left: all behind the first are LOST
            due(9, "wish(" + i + ", 1)", x.wish(i, 1), i == 0 ? 0 : 1);
        }
        due(9, "wish(4, 0)", x.wish(4, 0), -2);
        due(9, "wish(-1, 0)", x.wish(-1, 0), -2);
        due(9, "wish(0, 2)", x.wish(0, 2), -2);
        due(9, "the first without a LOOK", made("array steps 7;element 4;deaf 11;").wish(0, 0), 11);
        due(9, "LOST without ELEMENTS", made("array steps 7;deaf 11;").wish(0, 1), 1);
    }

    private static void promises10To12() {
        due(10, "rank()", made(TIGHT).rank(), 5);
        due(10, "rank()", made(FULL).rank(), 4);
        due(10, "rank() of TWINS", made("array steps 7;element 0;element 6;look 0;deaf 2;deaf 3;").rank(), 2);
        due(10, "rank() without a LOOK", made("array steps 7;element 0;element 6;deaf 2;").rank(), 1);
        due(11, "solved()", made(TIGHT).solved(), 1);
        due(11, "a TWIN of the LOOK is DEAF", made("array steps 7;element 0;element 6;look 0;deaf 2;").solved(), 0);
        due(11, "without a LOOK", made("array steps 7;element 0;element 6;deaf 2;").solved(), 0);
        due(11, "without WISHES", made("array steps 7;element 0;").solved(), 0);
        due(11, "a LOST WISH", made("array steps 7;element 0;element 6;look 1;deaf 2;deaf 4;").solved(), 1);
        due(11, "without ELEMENTS", made("array steps 7;look 1;").solved(), 0);
        DeafArray x = made("array steps 7;element 0;broken 5;element 3;look 1;");
        long[][] weights = {{1, 0, 0, 0, 2}, {0, 0, 0, 0, 1}, {0, 0, 0, -1, 2}};
        for (int i = 0; i < 3; i++) {
            for (int what = 0; what < 5; what++) {
                due(12, "weight(" + i + ", " + what + ")", x.weight(i, what), weights[i][what]);
            }
        }
        due(12, "weight(3, 0)", x.weight(3, 0), NO_SUCH);
        due(12, "weight(-1, 0)", x.weight(-1, 0), NO_SUCH);
        due(12, "weight(0, 5)", x.weight(0, 5), NO_SUCH);
        due(12, "weight(0, -1)", x.weight(0, -1), NO_SUCH);
    }

    private static void promises13To15() {
        DeafArray x = made(PAIR);
        long[] gain = {1, 0, 1, 0, 2};
        for (int what = 0; what < 5; what++) {
            due(13, "gain(2, " + what + ")", x.gain(2, what), gain[what]);
        }
        due(13, "gain(6, 4)", x.gain(6, 4), 1);
        due(13, "gain(12, 0)", x.gain(12, 0), NO_SUCH);
        due(13, "gain(-1, 0)", x.gain(-1, 0), NO_SUCH);
        due(13, "gain(0, 5)", x.gain(0, 5), NO_SUCH);
        long[][] powers = {{1, 0, 1}, {2, 1, 4}, {3, 0, 4}, {1, 0, 2}, {1, 0, 4}, {2, -1, 4}, {0, 0, 1}};
        for (int k = 0; k < 12; k++) {
            for (int what = 0; what < 3; what++) {
                due(14, "power(" + k + ", " + what + ")", x.power(k, what), powers[Math.min(k, 12 - k)][what]);
            }
        }
        due(14, "power(0, 3)", x.power(0, 3), NO_SUCH);
        due(14, "power(0, -1)", x.power(0, -1), NO_SUCH);
        due(14, "power(12, 0)", x.power(12, 0), NO_SUCH);
        long[] total = {1, 0, 2};
        for (int what = 0; what < 3; what++) {
            due(15, "total(" + what + ")", x.total(what), total[what]);
        }
        due(15, "total(3)", x.total(3), NO_SUCH);
        due(15, "total(-1)", x.total(-1), NO_SUCH);
        // the LOOK's ROW less what lies in its neighbour's has 2 - (2 + r) / 2 of length
        DeafArray y = made("array steps 3;element 0;element 1;look 0;deaf 1;");
        due(15, "total(0) beside", y.total(0), 4);
        due(15, "total(1) beside", y.total(1), 2);
        due(15, "total(2) beside", y.total(2), 1);
    }

    private static void promises16And17() {
        DeafArray x = made(PAIR);
        due(16, "louder(0, 1)", x.louder(0, 1), 1);
        due(16, "louder(1, 0)", x.louder(1, 0), -1);
        due(16, "louder(1, 11)", x.louder(1, 11), 0);
        // 2 - r by 4 is below 1 by 4, but above 0
        due(16, "louder(5, 4)", x.louder(5, 4), -1);
        due(16, "louder(5, 6)", x.louder(5, 6), 1);
        due(16, "louder(12, 0)", x.louder(12, 0), -2);
        due(16, "louder(0, -1)", x.louder(0, -1), -2);
        int[] order = {0, 1, 11, 2, 10, 3, 9, 4, 8, 5, 7, 6};
        for (int i = 0; i < 12; i++) {
            due(17, "loud(" + i + ")", x.loud(i), order[i]);
        }
        due(17, "loud(12)", x.loud(12), -2);
        due(17, "loud(-1)", x.loud(-1), -2);
    }

    private static void promises18And19() {
        DeafArray x = made(PAIR);
        due(18, "hush(1, 4, 0)", x.hush(1, 4, 0), 5);
        due(18, "hush(1, 4, 1)", x.hush(1, 4, 1), 4);
        due(18, "hush(99, 1, 0)", x.hush(99, 1, 0), 12);
        due(18, "hush(99, 1, 1)", x.hush(99, 1, 1), 0);
        due(18, "hush(0, 99, 0)", x.hush(0, 99, 0), 1);
        due(18, "hush(0, 99, 1)", x.hush(0, 99, 1), 6);
        due(18, "hush(100, 1, 0)", x.hush(100, 1, 0), -2);
        due(18, "hush(-1, 1, 0)", x.hush(-1, 1, 0), -2);
        due(18, "hush(1, 100, 0)", x.hush(1, 100, 0), -2);
        due(18, "hush(1, 0, 0)", x.hush(1, 0, 0), -2);
        due(18, "hush(1, 1, 2)", x.hush(1, 1, 2), -2);
        DeafArray one = made("array steps 3;element 0;look 0;");
        due(18, "none is hushed", one.hush(98, 99, 0), 0);
        due(18, "none is the first", one.hush(98, 99, 1), -1);
        // the row goes on from 11 to 0
        x.look(6);
        x.deaf(0);
        due(18, "hush around 0", x.hush(1, 4, 0), 5);
        due(18, "hush around 0, the first", x.hush(1, 4, 1), 10);
        due(19, "beam around 6", x.beam(1, 2), 7);
        // two rows of one: the least counts
        DeafArray two = made(THREE);
        due(18, "like rows", two.hush(0, 1, 0), 1);
        due(18, "like rows, the first", two.hush(0, 1, 1), 3);
        DeafArray y = made(PAIR);
        due(19, "beam(3, 4)", y.beam(3, 4), 5);
        due(19, "beam(76, 99)", y.beam(76, 99), 3);
        due(19, "beam(1, 1)", y.beam(1, 1), 1);
        due(19, "beam(2, 1)", y.beam(2, 1), 0);
        due(19, "beam(0, 1)", y.beam(0, 1), 12);
        due(19, "beam(1, 99)", y.beam(1, 99), 11);
        due(19, "beam(100, 1)", y.beam(100, 1), -2);
        due(19, "beam(1, 0)", y.beam(1, 0), -2);
    }

    private static void promises20And21() {
        DeafArray x = made("array steps 7;element 0;element 6;look 1;deaf 2;deaf 4;");
        long[][] shares = {{1, 0, 0, 0, 2}, {0, 0, 0, 0, 1}, {0, 0, 0, 0, 1}};
        for (int i = 0; i < 3; i++) {
            for (int what = 0; what < 5; what++) {
                due(20, "share(" + i + ", " + what + ")", x.share(i, what), shares[i][what]);
            }
        }
        due(20, "share(3, 0)", x.share(3, 0), NO_SUCH);
        due(20, "share(-1, 0)", x.share(-1, 0), NO_SUCH);
        due(20, "share(0, 5)", x.share(0, 5), NO_SUCH);
        due(21, "room(0)", x.room(0), 4);
        due(21, "room(1)", x.room(1), 0);
        // ROWS make 1 + z with one another: 2 times 2 less (2 + r), and -(1 + z) / (2 - r) is the second SHARE
        DeafArray y = made("array steps 3;element 0;element 1;look 1;deaf 0;");
        due(21, "room(0) beside", y.room(0), 2);
        due(21, "room(1) beside", y.room(1), -1);
        due(21, "room(2)", y.room(2), NO_SUCH);
        due(21, "room(-1)", y.room(-1), NO_SUCH);
        due(20, "share(0, 0) beside", y.share(0, 0), 4);
        due(20, "share(0, 1) beside", y.share(0, 1), 4);
        due(20, "share(0, 3) beside", y.share(0, 3), -2);
        due(20, "share(0, 4) beside", y.share(0, 4), 1);
        // WEIGHTS are SHARES times what is heard, TURNED: by ELEMENT 0 both are heard by 1
        for (int what = 0; what < 4; what++) {
            due(20, "both SHARES, " + what, y.share(0, what) + y.share(1, what), y.weight(0, what));
        }
        due(21, "room(0) without any", made("array steps 3;element 0;").room(0), 1);
        due(21, "room(0) of LOST ones", made("array steps 3;look 0;deaf 1;").room(0), 1);
        due(21, "room(0) without a LOOK", made("array steps 3;element 0;element 1;deaf 1;").room(0), 2);
        due(21, "room(0) without TRUE WEIGHTS", made("array steps 3;element 0;look 5;deaf 1;").room(0), 1);
    }

    private static void promises22And23() {
        DeafArray x = made(PAIR);
        long[][] powers = {{4, 0}, {2, 1}, {3, 0}, {2, 0}, {1, 0}, {2, -1}, {0, 0}};
        for (int k = 0; k < 12; k++) {
            for (int what = 0; what < 2; what++) {
                due(22, "likeness", x.likeness(k, 0, what), powers[Math.min(k, 12 - k)][what]);
                due(22, "likeness", x.likeness(3, (k + 3) % 12, what), powers[Math.min(k, 12 - k)][what]);
            }
        }
        due(22, "likeness(12, 0, 0)", x.likeness(12, 0, 0), -1000);
        due(22, "likeness(0, -1, 0)", x.likeness(0, -1, 0), -1000);
        due(22, "likeness(0, 0, 2)", x.likeness(0, 0, 2), -1000);
        due(22, "likeness(0, 0, -1)", x.likeness(0, 0, -1), -1000);
        due(23, "nearest(0)", x.nearest(0), 1);
        due(23, "nearest(11)", x.nearest(11), 0);
        due(23, "nearest(5)", x.nearest(5), 4);
        due(23, "nearest(12)", x.nearest(12), -2);
        due(23, "nearest(-1)", x.nearest(-1), -2);
        x.breaks(1);
        due(22, "likeness by one", x.likeness(0, 5, 0), 1);
        due(23, "nearest of TWINS alone", x.nearest(0), -1);
        DeafArray y = made(TWINNED);
        due(23, "nearest, no TWIN", y.nearest(1), 0);
    }

    private static void promises24To26() {
        due(24, "quiet()", made(PAIR).quiet(), 1);
        due(24, "quiet() beside WISHES", made(TWINNED).quiet(), 3);
        due(24, "quiet() of one", made("array steps 3;element 0;look 0;").quiet(), 0);
        due(25, "side()", made(PAIR).side(), 1);
        due(25, "side() beside TWINS", made(TWINNED).side(), 0);
        due(25, "side() of one", made("array steps 3;element 5;look 0;").side(), -1);
        DeafArray x = made(PAIR);
        due(26, "bounded(14, 15)", x.bounded(14, 15), 1);
        due(26, "bounded(13, 14)", x.bounded(13, 14), 0);
        due(26, "bounded(1, 1)", x.bounded(1, 1), 1);
        due(26, "bounded(100, 1)", x.bounded(100, 1), -2);
        due(26, "bounded(1, 0)", x.bounded(1, 0), -2);
        due(26, "bounded(-1, 1)", x.bounded(-1, 1), -2);
        due(26, "bounded(0, 1) without any", made("array steps 3;element 5;look 0;").bounded(0, 1), 1);
        // 0 alone is louder
        DeafArray zero = made("array steps 1;element 7;element 11;element 6;element 4;look 3;deaf 1;");
        due(26, "bounded(50, 99) by 0", zero.bounded(50, 99), 0);
        due(25, "side() is 0", zero.side(), 0);
        // exactly at the bound
        due(26, "bounded(1, 2)", made(TWINNED).bounded(1, 2), 1);
        due(26, "bounded(49, 99)", made(TWINNED).bounded(49, 99), 0);
    }

    private static void promises27And28() {
        DeafArray x = made("array steps 3;element 1;element 5;broken 2;");
        due(27, "twins(1)", x.twins(1), 1 << 1 | 1 << 4 | 1 << 7 | 1 << 10);
        due(27, "twins(12)", x.twins(12), -2);
        due(27, "twins(-1)", x.twins(-1), -2);
        due(28, "sets()", x.sets(), 3);
        x.mends(2);
        due(27, "twins(1) by three", x.twins(1), 2);
        due(28, "sets() by three", x.sets(), 12);
        x.breaks(2);
        x.breaks(1);
        due(27, "twins(1) by one", x.twins(1), 4095);
        due(28, "sets() by one", x.sets(), 1);
        due(28, "sets() by six", made("array steps 3;element 1;element 7;").sets(), 2);
    }

    private static void promises29To32() {
        DeafArray x = made(THREE);
        int[] without = {0, 1, 0};
        for (int i = 0; i < 3; i++) {
            due(29, "without(" + i + ", 0)", x.without(i, 0), without[i]);
            due(29, "without(" + i + ", 1)", x.without(i, 1), 2);
        }
        due(29, "without(3, 0)", x.without(3, 0), -2);
        due(29, "without(-1, 0)", x.without(-1, 0), -2);
        due(29, "without(0, 2)", x.without(0, 2), -2);
        due(29, "nothing stays", x.count(1), 3);
        due(30, "spares()", x.spares(), 2);
        due(31, "frail(0)", x.frail(0), 1);
        due(31, "frail(1)", x.frail(1), 1);
        due(31, "frail(2)", x.frail(2), -2);
        due(31, "frail(-1)", x.frail(-1), -2);
        due(32, "fewest(0)", x.fewest(0), 2);
        due(32, "fewest(1)", x.fewest(1), 5);
        due(32, "fewest(2)", x.fewest(2), -2);
        x.breaks(1);
        due(29, "without a BROKEN one", x.without(1, 0), 1);
        due(30, "spares() beside a BROKEN one", x.spares(), 0);
        due(32, "fewest(1) beside a BROKEN one", x.fewest(1), 5);
        DeafArray y = made("array steps 3;broken 1;element 2;element 4;broken 6;element 7;look 3;");
        due(30, "spares() without DEAF ones", y.spares(), 2 + 4 + 16);
        due(31, "frail(0) without DEAF ones", y.frail(0), 3);
        due(31, "frail(1) without DEAF ones", y.frail(1), 2 + 4 + 16);
        due(32, "fewest(0) without DEAF ones", y.fewest(0), 1);
        due(32, "fewest(1) without DEAF ones", y.fewest(1), 2);
        DeafArray over = made("array steps 3;element 1;look 3;deaf 4;");
        due(31, "frail(0), over", over.frail(0), 0);
        due(31, "frail(1), over", over.frail(1), 0);
        due(32, "fewest(0), over", over.fewest(0), -1);
        due(32, "fewest(1), over", over.fewest(1), -1);
        due(30, "spares(), over", over.spares(), 0);
        DeafArray apart = made("array steps 4;element 8;element 6;element 2;element 0;look 7;deaf 10;");
        DeafArray five = made("array steps 4;element 8;element 6;element 2;element 0;element 1;look 7;");
        due(31, "frail(0) by all", five.frail(0), 5);
        due(31, "frail(1) by all", five.frail(1), 31);
        due(32, "fewest(0) by all", made(TIGHT).fewest(0), 5);
        due(32, "fewest(1) by all", made(TIGHT).fewest(1), 31);
        due(31, "frail(0) by two", apart.frail(0), 2);
        due(31, "frail(1), not the first two", apart.frail(1), 6);
    }

    private static void promises33And34() {
        DeafArray x = made(PAIR);
        long[] leak = {1, 0, 4};
        for (int k = 0; k < 12; k++) {
            for (int what = 0; what < 3; what++) {
                due(33, "leak(1, " + k + ", " + what + ")", x.leak(1, k, what), leak[what]);
            }
        }
        due(33, "leak(2, 0, 0)", x.leak(2, 0, 0), NO_SUCH);
        due(33, "leak(0, 12, 0)", x.leak(0, 12, 0), NO_SUCH);
        due(33, "leak(0, 0, 3)", x.leak(0, 0, 3), NO_SUCH);
        due(33, "leak(0, 0, -1)", x.leak(0, 0, -1), NO_SUCH);
        due(33, "the spare one leaks nothing", made(THREE).leak(1, 3, 0), 0);
        due(33, "the spare one leaks nothing by", made(THREE).leak(1, 3, 2), 1);
        due(34, "weakest(), like ones", x.weakest(), 0);
        due(34, "weakest() without DEAF ones", made(TWINNED).weakest(), -1);
        due(34, "weakest()", made(TIGHT).weakest(), 2);
    }

    private static void promises35To37() {
        // WEIGHTS are 1/2 and -1/2 z z z: a half goes upward
        DeafArray x = made("array steps 3;element 0;element 3;look 1;");
        due(35, "cut(0, 0)", x.cut(0, 0), 2);
        due(35, "cut(1, 3)", x.cut(1, 3), -1);
        due(35, "cut(1, 0)", x.cut(1, 0), 0);
        due(35, "cut(0, 4)", x.cut(0, 4), NO_SUCH);
        due(35, "cut(0, -1)", x.cut(0, -1), NO_SUCH);
        due(35, "cut(2, 0)", x.cut(2, 0), NO_SUCH);
        // 2 less z z z times z to the 3 k: 2 - z z z for 0, 3 for 1, 2 + z z z for 2
        long[][] gains = {{2, 0, 0, -1}, {3, 0, 0, 0}, {2, 0, 0, 1}, {1, 0, 0, 0}};
        for (int k = 0; k < 12; k++) {
            for (int what = 0; what < 4; what++) {
                due(36, "cutGain(" + k + ", " + what + ")", x.cutGain(k, what), gains[k % 4][what]);
            }
        }
        due(36, "cutGain(12, 0)", x.cutGain(12, 0), NO_SUCH);
        due(36, "cutGain(0, 4)", x.cutGain(0, 4), NO_SUCH);
        due(37, "cutPower(0, 0)", x.cutPower(0, 0), 5);
        due(37, "cutPower(1, 0)", x.cutPower(1, 0), 9);
        due(37, "cutPower(1, 1)", x.cutPower(1, 1), 0);
        due(37, "cutPower(0, 2)", x.cutPower(0, 2), NO_SUCH);
        due(37, "cutPower(-1, 0)", x.cutPower(-1, 0), NO_SUCH);
        DeafArray y = made(PAIR);
        due(37, "cutPower(1, 0) of a pair", y.cutPower(1, 0), 50);
        due(37, "cutPower(1, 1) of a pair", y.cutPower(1, 1), 25);
        x.breaks(1);
        due(35, "cut of a BROKEN one", x.cut(1, 3), 0);
        // alone it has WEIGHT 1: 3 STEPS
        due(35, "cut of the other", x.cut(0, 0), 3);
    }

    private static void promises38To40() {
        DeafArray x = made("array steps 3;element 0;element 3;look 1;");
        // each WEIGHT is off by a half STEP: 1/6 and z z z/6
        long[][] errors = {{1, 0, 18}, {0, 0, 1}, {1, 0, 18}, {1, 0, 9}};
        for (int k = 0; k < 12; k++) {
            for (int what = 0; what < 3; what++) {
                due(38, "error(" + k + ", " + what + ")", x.error(k, what), errors[k % 4][what]);
            }
            due(40, "within(" + k + ")", x.within(k), 1);
        }
        due(38, "error(12, 0)", x.error(12, 0), NO_SUCH);
        due(38, "error(0, 3)", x.error(0, 3), NO_SUCH);
        due(39, "farthest()", x.farthest(), 3);
        due(39, "farthest() of five",
            made("array steps 2;element 10;element 2;element 11;element 8;element 7;look 1;deaf 4;").farthest(), 10);
        due(40, "within(12)", x.within(12), -2);
        due(40, "within(-1)", x.within(-1), -2);
        x.steps(2);
        due(38, "error(5, 0) without any", x.error(5, 0), 0);
        due(38, "error(5, 2) without any", x.error(5, 2), 1);
        due(39, "farthest(), like ones", x.farthest(), 0);
        due(40, "within(0) without any", x.within(0), 1);
    }

    private static void promises41To43() {
        DeafArray x = made(PAIR);
        due(41, "coarsest(0, 1)", x.coarsest(0, 1), 1);
        due(41, "coarsest(100, 1)", x.coarsest(100, 1), -2);
        due(41, "coarsest(1, 0)", x.coarsest(1, 0), -2);
        due(41, "coarsest without DEAF ones", made(TWINNED).coarsest(0, 1), 1);
        DeafArray y = made("array steps 4;element 0;element 2;look 0;deaf 3;");
        due(43, "exactly()", y.exactly(), 2);
        due(43, "exactly() of one", made("array steps 4;element 0;look 5;").exactly(), 1);
        due(43, "exactly() of three", made("array steps 4;element 0;element 4;element 8;look 5;").exactly(), 3);
        due(43, "exactly() of thirteenths",
            made("array steps 4;element 0;element 1;element 2;look 0;deaf 5;").exactly(), 13);
        due(43, "exactly() by none", made("array steps 1;element 0;element 7;element 1;element 3;element 4;"
            + "look 8;deaf 5;deaf 10;").exactly(), -1);
        DeafArray none = made("array steps 2;element 7;element 4;element 2;element 8;look 5;deaf 7;deaf 2;");
        due(41, "coarsest(0, 1), by none", none.coarsest(0, 1), -1);
        due(41, "coarsest(99, 1)", none.coarsest(99, 1), 1);
        due(41, "coarsest(0, 1), by the last", made("array steps 6;element 5;element 4;element 3;element 7;element 8;"
            + "look 4;deaf 11;deaf 6;deaf 7;").coarsest(0, 1), 99);
        due(43, "exactly() by many", made("array steps 7;element 10;element 11;element 3;element 4;element 6;look 0;"
            + "deaf 9;deaf 8;deaf 11;").exactly(), 96);
        due(41, "coarsest(1, 9)", made("array steps 7;element 4;element 2;element 1;look 10;deaf 8;deaf 5;")
            .coarsest(1, 9), 6);
        due(42, "step(0) without DEAF ones", made(TWINNED).step(0), -1);
        due(42, "step(0) without any less", x.step(0), -1);
        due(42, "step(3)", x.step(3), -2);
        due(42, "step(-1)", x.step(-1), -2);
        // three thirds, CUT to 0 STEPS each by 1: nothing is left to hear
        DeafArray three = made("array steps 1;element 0;element 4;element 8;look 0;deaf 1;deaf 2;");
        due(42, "step(0) of nothing", three.step(0), -1);
        // halves of 7 STEPS go upward, one beside the other: a STEP less leaves nothing to hear
        DeafArray seven = made("array steps 7;element 7;element 5;look 5;deaf 2;");
        int[] step = {1, 3, -1};
        for (int what = 0; what < 3; what++) {
            due(42, "step(" + what + ")", seven.step(what), step[what]);
        }
        due(42, "nothing stays", seven.cutPower(2, 0), 1);
        DeafArray more = made("array steps 3;broken 2;element 11;element 0;element 4;look 6;deaf 5;deaf 9;");
        int[] first = {3, 2, -1};
        for (int what = 0; what < 3; what++) {
            due(42, "step(" + what + ") of more", more.step(what), first[what]);
        }
    }

    private static void promise44() {
        DeafArray x = made(PAIR);
        due(44, "polish(1, 0)", x.polish(1, 0), 0);
        due(44, "polish(1, 1)", x.polish(1, 1), 0);
        due(44, "polish(0, 0)", x.polish(0, 0), NO_SUCH);
        due(44, "polish(21, 0)", x.polish(21, 0), NO_SUCH);
        due(44, "polish(1, 3)", x.polish(1, 3), NO_SUCH);
        due(44, "polish(1, -1)", x.polish(1, -1), NO_SUCH);
        due(44, "polish(20, 0) without DEAF ones", made(TWINNED).polish(20, 0), 0);
        DeafArray y = made("array steps 9;element 8;element 7;element 4;element 5;element 6;look 11;"
            + "deaf 5;deaf 10;deaf 0;");
        long[][] polished = {{1, 6, 1}, {2, 5, -1}, {3, 5, -2}, {4, 8, -4}, {4, 8, -4}};
        for (int n = 1; n <= 20; n++) {
            for (int what = 0; what < 3; what++) {
                due(44, "polish(" + n + ", " + what + ")", y.polish(n, what), polished[Math.min(n, 5) - 1][what]);
            }
        }
        // one STEP is what step() tells
        DeafArray seven = made("array steps 7;element 7;element 5;look 5;deaf 2;");
        due(44, "polish(20, 0) of halves", seven.polish(20, 0), 1);
        due(44, "polish(20, 1) of halves", seven.polish(20, 1), 0);
    }

    private static void promises45And46() {
        DeafArray x = made(PAIR);
        due(45, "looks()", x.looks(), 4095);
        due(46, "easiest(), like ones", x.easiest(), 0);
        // two ELEMENTS: two DEAF ones leave none; as the LOOK each is DEAF no more
        DeafArray y = made("array steps 4;element 0;element 1;deaf 3;deaf 9;");
        due(45, "looks() without a LOOK", y.looks(), 1 << 3 | 1 << 9);
        due(46, "easiest() without a LOOK", y.easiest(), 3);
        due(45, "count(4)", y.count(4), 1 << 3 | 1 << 9);
        due(45, "count(3)", y.count(3), -1);
        DeafArray none = made("array steps 4;element 0;element 1;deaf 3;deaf 9;deaf 4;");
        due(45, "looks() at none", none.looks(), 0);
        due(46, "easiest() of none", none.easiest(), -1);
        // TWINS of the DEAF one cannot be; as the LOOK it can
        DeafArray twins = made("array steps 4;element 0;element 3;look 0;deaf 1;");
        due(45, "looks() beside TWINS", twins.looks(), 4095 & ~(1 << 5 | 1 << 9));
        due(46, "easiest() beside TWINS", twins.easiest(), 1);
        due(46, "easiest(), not the least", made("array steps 4;element 0;element 1;look 0;deaf 1;").easiest(), 1);
    }

    private static void promises47And48() {
        DeafArray x = made(THREE);
        due(47, "deafer() by none", x.deafer(), -1);
        due(47, "deafer(), four are", made(TIGHT).deafer(), -1);
        due(47, "deafer()", made("array steps 4;element 0;element 1;look 2;").deafer(), 8);
        // a DIRECTION that has no GAIN costs nothing
        due(47, "deafer(), like ones", made(TWINNED).deafer(), 3);
        DeafArray y = made("array steps 4;element 0;element 6;look 1;");
        due(48, "sealed(0, 1, 0), it is so", y.sealed(0, 1, 0), 0);
        due(48, "sealed(0, 1, 1), it is so", y.sealed(0, 1, 1), 0);
        due(48, "sealed(100, 1, 0)", y.sealed(100, 1, 0), -2);
        due(48, "sealed(1, 0, 0)", y.sealed(1, 0, 0), -2);
        due(48, "sealed(1, 1, 2)", y.sealed(1, 1, 2), -2);
        DeafArray pair = made("array steps 4;element 0;element 3;look 0;");
        due(48, "sealed(1, 2, 0)", pair.sealed(1, 2, 0), 0);
        due(48, "sealed(1, 3, 0)", pair.sealed(1, 3, 0), -1);
        due(48, "sealed(1, 3, 1)", pair.sealed(1, 3, 1), -1);
        // three at 0, 4, 8 hear three sets of TWINS: two further DEAF ones cost nothing, as they are quiet
        DeafArray three = made("array steps 4;element 0;element 4;element 8;look 0;");
        due(48, "sealed(0, 1, 0) of three", three.sealed(0, 1, 0), 0);
        DeafArray one = made("array steps 8;element 5;element 3;element 2;element 1;element 9;look 7;deaf 11;");
        due(48, "sealed(1, 3, 0) by one", one.sealed(1, 3, 0), 1);
        due(48, "sealed(1, 3, 1) by one", one.sealed(1, 3, 1), 1 << 2);
        DeafArray two = made("array steps 5;element 5;element 0;element 9;element 6;look 8;deaf 9;");
        due(48, "sealed(1, 3, 0) by two", two.sealed(1, 3, 0), 2);
        due(48, "sealed(1, 3, 1) by two", two.sealed(1, 3, 1), 1 << 7 | 1 << 2);
        due(48, "nothing stays", two.count(4), 1 << 9);
        DeafArray four = made("array steps 4;element 11;element 9;element 6;element 5;element 2;look 9;deaf 8;");
        due(48, "sealed(27, 99, 0) by three, four in all", four.sealed(27, 99, 0), 3);
        due(48, "sealed(27, 99, 1) by three, four in all", four.sealed(27, 99, 1), 1 << 10 | 1 << 7 | 1 << 3);
        DeafArray tight = made(TIGHT);
        due(48, "sealed(99, 1, 0), four are", tight.sealed(99, 1, 0), 0);
        due(48, "sealed(0, 1, 0), four are", tight.sealed(0, 1, 0), -1);
    }

    private static void promises49And50() {
        DeafArray x = made(PAIR);
        due(49, "placed(1, 0)", x.placed(1, 0), 0);
        due(49, "placed(1, 1)", x.placed(1, 1), -1);
        // LOOK and DEAF are 6 apart: POSITIONS must be odd and even
        due(49, "placed(2, 0)", x.placed(2, 0), 36);
        due(49, "placed(2, 1)", x.placed(2, 1), 3);
        due(49, "placed(0, 0)", x.placed(0, 0), -2);
        due(49, "placed(6, 0)", x.placed(6, 0), -2);
        due(49, "placed(1, 2)", x.placed(1, 2), -2);
        DeafArray one = made("array steps 4;look 7;");
        int[] sets = {12, 66, 220, 495, 792};
        for (int n = 1; n <= 5; n++) {
            due(49, "placed(" + n + ", 0), a LOOK alone", one.placed(n, 0), sets[n - 1]);
            due(49, "placed(" + n + ", 1), a LOOK alone", one.placed(n, 1), (1 << n) - 1);
        }
        due(49, "placed(3, 0) without a LOOK", made("array steps 4;deaf 7;").placed(3, 0), 0);
        due(50, "better(0)", x.better(0), 0);
        due(50, "better(1)", x.better(1), 1);
        due(50, "better(2)", x.better(2), -2);
        due(50, "better(-1)", x.better(-1), -2);
        DeafArray y = made("array steps 4;element 2;element 7;broken 3;look 0;deaf 3;");
        // best is 2 apart from the other, or 6 or 10 more: 5 is free
        due(50, "better(1)", y.better(1), 0);
        due(50, "better of a BROKEN one", y.better(2), -2);
        DeafArray both = made("array steps 8;element 2;element 7;look 3;deaf 1;");
        due(49, "placed(2, 0) of TWINS", both.placed(2, 0), 60);
        due(49, "placed(2, 1), not the first", both.placed(2, 1), 1 | 1 << 3);
        due(50, "better(0), not its own", both.better(0), 4);
        due(50, "better(1), not its own", both.better(1), 5);
        DeafArray none = made("array steps 4;element 2;look 0;deaf 3;");
        due(50, "better(0) by none", none.better(0), -1);
    }

    private static void promise51() {
        DeafArray x = made(PAIR);
        // GAINS of 3: (1 + z z z) / 2 for the LOOK 0; for the LOOK 6, DEAF no more, nothing else is DEAF
        due(51, "both(6, 2, 0, 3, 0)", x.both(6, 2, 0, 3, 0), 1);
        due(51, "both(6, 2, 0, 3, 3)", x.both(6, 2, 0, 3, 3), 1);
        due(51, "both(6, 2, 0, 3, 4)", x.both(6, 2, 0, 3, 4), 1);
        due(51, "both(6, 1, 1, 3, 0)", x.both(6, 1, 1, 3, 0), 1);
        due(51, "both(6, 1, 1, 3, 3)", x.both(6, 1, 1, 3, 3), 0);
        due(51, "both(6, 1, 1, 3, 4)", x.both(6, 1, 1, 3, 4), 1);
        due(51, "both(6, 9, -9, 6, 0)", x.both(6, 9, -9, 6, 0), -9);
        due(51, "both(0, 3, -3, 2, 0)", x.both(0, 3, -3, 2, 0), 0);
        due(51, "both(0, 3, -3, 2, 4)", x.both(0, 3, -3, 2, 4), 1);
        due(51, "both(12, 1, 1, 0, 0)", x.both(12, 1, 1, 0, 0), NO_SUCH);
        due(51, "both(0, 10, 1, 0, 0)", x.both(0, 10, 1, 0, 0), NO_SUCH);
        due(51, "both(0, 1, -10, 0, 0)", x.both(0, 1, -10, 0, 0), NO_SUCH);
        due(51, "both(0, 1, 1, 12, 0)", x.both(0, 1, 1, 12, 0), NO_SUCH);
        due(51, "both(0, 1, 1, 0, 5)", x.both(0, 1, 1, 0, 5), NO_SUCH);
        due(51, "both(0, 1, 1, 0, -1)", x.both(0, 1, 1, 0, -1), NO_SUCH);
        DeafArray twins = made("array steps 4;element 0;element 3;look 0;deaf 1;");
        due(51, "both(5, ..), none for 5", twins.both(5, 1, 0, 0, 0), NO_SUCH);
        due(51, "both(4, 1, 1, 0, 0)", twins.both(4, 1, 1, 0, 0), 2);
    }

    private static void promises52And53() {
        DeafArray x = made(TWINNED);
        due(52, "tell(0)", x.tell(0), 3);
        due(52, "tell(1)", x.tell(1), 6);
        due(52, "tell(2)", x.tell(2), -2);
        due(53, "octet(6)", x.octet(6), -1);
        due(53, "octet(-1)", x.octet(-1), -1);
        due(53, "octet(0), OUT stays", x.octet(0), '-');
        due(52, "1/2", told(x, 0).equals("1/2") ? 1 : 0, 1);
        due(52, "-zzz/2", told(x, 1).equals("-zzz/2") ? 1 : 0, 1);
        DeafArray broken = made("array steps 3;element 0;broken 1;look 0;");
        due(52, "1", told(broken, 0).equals("1") ? 1 : 0, 1);
        due(52, "0", told(broken, 1).equals("0") ? 1 : 0, 1);
        DeafArray y = made("array steps 3;element 0;element 1;look 1;deaf 0;");
        String[] texts = {told(y, 0), told(y, 1)};
        // 1 by z - 1 is -zz - zzz
        due(52, texts[0], texts[0].equals("zz+zzz") ? 1 : 0, 1);
        due(52, texts[1], texts[1].equals("-zz-zzz") ? 1 : 0, 1);
        due(53, "octet(0)", y.octet(0), '-');
        due(53, "octet(6)", y.octet(6), 'z');
        due(53, "octet(7)", y.octet(7), -1);
        String full = told(made(FULL), 1);
        due(52, full, full.equals("21+13z-29zz+6zzz/156") ? 1 : 0, 1);
        full = told(made(FULL), 2);
        due(52, full, full.equals("-8+2z-5zz-4zzz/78") ? 1 : 0, 1);
    }

    private static void promises54To56() {
        DeafArray x = made("array steps 3;element 0;broken 1;element 2;look 0;");
        due(54, "breaks(1)", x.breaks(1), -5);
        due(54, "breaks(3)", x.breaks(3), -2);
        due(54, "breaks(-1)", x.breaks(-1), -2);
        due(54, "breaks(0)", x.breaks(0), 1);
        due(54, "weight(0, 0)", x.weight(0, 0), 0);
        due(54, "weight(2, 0)", x.weight(2, 0), 1);
        due(54, "breaks(2)", x.breaks(2), 0);
        due(54, "solved()", x.solved(), 0);
        due(55, "mends(2)", x.mends(2), 1);
        due(55, "mends(2)", x.mends(2), -5);
        due(55, "mends(3)", x.mends(3), -2);
        due(55, "mends(1)", x.mends(1), 2);
        due(55, "weight(1, 4)", x.weight(1, 4), 2);
        due(56, "moves(1, 2)", x.moves(1, 2), -5);
        due(56, "moves(1, 0)", x.moves(1, 0), -5);
        due(56, "moves(1, 1)", x.moves(1, 1), -5);
        due(56, "moves(1, 12)", x.moves(1, 12), -2);
        due(56, "moves(1, -1)", x.moves(1, -1), -2);
        due(56, "moves(3, 5)", x.moves(3, 5), -2);
        due(56, "moves(0, 11)", x.moves(0, 11), 0);
        due(56, "element(0, 0)", x.element(0, 0), 11);
        due(56, "element(0, 1)", x.element(0, 1), 1);
        due(56, "moves(1, 0)", x.moves(1, 0), 1);
        due(56, "hears(1, 7)", x.hears(1, 7), 0);
    }

    private static void promises57To60() {
        DeafArray x = made("array steps 3;element 0;element 1;element 2;");
        due(57, "look(4)", x.look(4), -1);
        due(57, "solved()", x.solved(), 1);
        due(57, "look(4)", x.look(4), -5);
        due(57, "look(12)", x.look(12), -2);
        due(57, "look(-1)", x.look(-1), -2);
        due(58, "deaf(5)", x.deaf(5), 1);
        due(58, "deaf(5)", x.deaf(5), -5);
        due(58, "deaf(4)", x.deaf(4), -5);
        due(58, "deaf(12)", x.deaf(12), -2);
        due(58, "deaf(1)", x.deaf(1), 2);
        due(58, "wish(2, 0)", x.wish(2, 0), 1);
        due(58, "deaf(7)", x.deaf(7), 3);
        due(58, "deaf(0)", x.deaf(0), 4);
        due(58, "deaf(9)", x.deaf(9), -5);
        due(57, "look(1)", x.look(1), 4);
        due(57, "count(4)", x.count(4), 1 << 5 | 1 << 7 | 1);
        due(57, "wish(2, 0)", x.wish(2, 0), 7);
        due(58, "deaf(4)", x.deaf(4), 4);
        due(58, "wish(4, 0)", x.wish(4, 0), 4);
        due(59, "hear(7)", x.hear(7), 3);
        due(59, "hear(7)", x.hear(7), -5);
        due(59, "hear(1)", x.hear(1), -5);
        due(59, "hear(12)", x.hear(12), -2);
        due(59, "wish(2, 0)", x.wish(2, 0), 0);
        due(60, "steps(99)", x.steps(99), 3);
        due(60, "steps(99)", x.steps(99), 99);
        due(60, "steps(0)", x.steps(0), -2);
        due(60, "steps(100)", x.steps(100), -2);
        due(60, "count(2)", x.count(2), 99);
        due(60, "count(6)", x.count(6), 4);
        DeafArray none = new DeafArray();
        due(57, "look(0)", none.look(0), -2);
        due(58, "deaf(0)", none.deaf(0), -2);
        due(59, "hear(0)", none.hear(0), -2);
        due(60, "steps(5)", none.steps(5), -2);
    }

    /** What needs TRUE WEIGHTS answers -2 or NO_SUCH without them, whatever else is asked. */
    private static void withoutWeights() {
        String[] texts = {"array steps 3;element 0;look 1;deaf 2;", "array steps 3;element 0;deaf 2;",
            "array steps 3;broken 0;look 2;", "array steps 3;"};
        for (String text : texts) {
            DeafArray x = made(text);
            long[] none = {x.weight(0, 0), x.gain(0, 0), x.power(0, 0), x.total(0), x.share(0, 0), x.leak(0, 0, 0),
                x.cut(0, 0), x.cutGain(0, 0), x.cutPower(0, 0), x.error(0, 0), x.polish(1, 0), x.both(0, 1, 1, 0, 0)};
            int[] promises = {12, 13, 14, 15, 20, 33, 35, 36, 37, 38, 44, 51};
            for (int i = 0; i < none.length; i++) {
                due(promises[i], text, none[i], NO_SUCH);
            }
            int[] two = {x.louder(0, 0), x.loud(0), x.hush(1, 1, 0), x.beam(1, 1), x.quiet(), x.side(), x.bounded(1, 1),
                x.weakest(), x.farthest(), x.within(0), x.coarsest(1, 1), x.step(0), x.exactly(), x.deafer(),
                x.sealed(1, 1, 0), x.tell(0)};
            int[] others = {16, 17, 18, 19, 24, 25, 26, 34, 39, 40, 41, 42, 43, 47, 48, 52};
            for (int i = 0; i < two.length; i++) {
                due(others[i], text, two[i], -2);
            }
        }
    }
}
