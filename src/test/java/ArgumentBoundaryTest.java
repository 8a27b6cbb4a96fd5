import java.util.ArrayList;
import java.util.List;
import java.util.Map;

/**
 * Every argument of every call at its bounds, one below and one above them, at the least and the greatest int, and at
 * numbers that would be in bounds if only some of their bits counted; in states that are full, empty, broken. What is
 * in bounds is answered as by the model; what is not is refused, and nothing is changed by it.
 */
public final class ArgumentBoundaryTest {
    private static final long NO_SUCH = Long.MIN_VALUE;
    /** A call, what it answers to an argument that is out of its bounds, and what its arguments are. */
    private static final Object[][] CALLS = {
        {"end", -1L, "byte"}, {"fault", -1L, "0..1"}, {"count", -1L, "0..8"}, {"element", -2L, "element", "0..1"},
        {"hears", -2L, "element", "0..11"}, {"wish", -2L, "wish", "0..1"}, {"weight", NO_SUCH, "element", "0..4"},
        {"gain", NO_SUCH, "0..11", "0..4"}, {"power", NO_SUCH, "0..11", "0..2"}, {"total", NO_SUCH, "0..2"},
        {"louder", -2L, "0..11", "0..11"}, {"loud", -2L, "0..11"}, {"hush", -2L, "0..99", "1..99", "0..1"},
        {"beam", -2L, "0..99", "1..99"}, {"share", NO_SUCH, "wish", "0..4"}, {"room", NO_SUCH, "0..1"},
        {"likeness", -1000L, "0..11", "0..11", "0..1"}, {"nearest", -2L, "0..11"}, {"bounded", -2L, "0..99", "1..99"},
        {"twins", -2L, "0..11"}, {"without", -2L, "element", "0..1"}, {"frail", -2L, "0..1"}, {"fewest", -2L, "0..1"},
        {"leak", NO_SUCH, "element", "0..11", "0..2"}, {"cut", NO_SUCH, "element", "0..3"},
        {"cutGain", NO_SUCH, "0..11", "0..3"}, {"cutPower", NO_SUCH, "0..11", "0..1"},
        {"error", NO_SUCH, "0..11", "0..2"}, {"within", -2L, "0..11"}, {"coarsest", -2L, "0..99", "1..99"},
        {"step", -2L, "0..2"}, {"polish", NO_SUCH, "1..20", "0..2"}, {"sealed", -2L, "0..99", "1..99", "0..1"},
        {"placed", -2L, "1..5", "0..1"}, {"better", -2L, "element"},
        {"both", NO_SUCH, "0..11", "-9..9", "-9..9", "0..11", "0..4"}, {"tell", -2L, "element"},
        {"octet", -1L, "octet"}, {"breaks", -2L, "element"}, {"mends", -2L, "element"},
        {"moves", -2L, "element", "0..11"}, {"look", -2L, "0..11"}, {"deaf", -2L, "0..11"}, {"hear", -2L, "0..11"},
        {"steps", -2L, "1..99"}};
    private static final String CHANGING = " end tell breaks mends moves look deaf hear steps ";
    private static final Run[] RUNS = {
        Run.none(),
        Run.of("array steps 1;"),
        Run.of("array steps 1;look 0;deaf 11;"),
        Run.of("array steps 99;element 11;look 11;").then("tell(0)"),
        Run.of("array steps 3;broken 0;broken 11;look 0;deaf 5;"),
        Run.of("array steps 2;element 11;broken 0;element 4;look 3;deaf 0;").then("tell(2)").fed("array steps 5;"
            + "deaf 11;"),
        Run.of("array steps 5;element 11;element 0;element 4;deaf 11;deaf 0;deaf 5;deaf 6;"),
        Run.of("array steps 9;element 0;element 1;element 2;element 3;element 11;look 0;deaf 1;deaf 2;deaf 4;deaf 11;")
            .then("tell(4)").fed("array steps 5;" + " ".repeat(286))};

    private static int checks;
    private static int wrong;

    public static void main(String[] args) {
        for (Run run : RUNS) {
            Map<String, Long> before = run.seen();
            same(run, before, run.seenByModel());
            for (Object[] call : CALLS) {
                tryCall(run, before, call);
            }
        }
        System.out.println(checks + " checks, " + wrong + " not as due");
        if (wrong != 0) {
            System.exit(1);
        }
    }

    private static void tryCall(Run run, Map<String, Long> before, Object[] call) {
        List<String> fine = new ArrayList<>();
        List<String> refused = new ArrayList<>();
        int[][] bounds = new int[call.length - 2][];
        for (int i = 0; i < bounds.length; i++) {
            bounds[i] = boundsOf(run, (String) call[i + 2]);
        }
        spell((String) call[0] + "(", 0, bounds, 0, fine, refused);
        boolean changing = CHANGING.contains(" " + call[0] + " ");
        for (int i = 0; i < fine.size(); i += changing ? 1 : 60) {
            List<String> some = fine.subList(i, changing ? i + 1 : Math.min(fine.size(), i + 60));
            asModel(run, some);
            Run behind = run.then(some.toArray(new String[0]));
            same(behind, changing ? behind.seenByModel() : before, behind.seen());
        }
        for (int i = 0; i < refused.size(); i += 60) {
            List<String> some = refused.subList(i, Math.min(refused.size(), i + 60));
            Calls on = run.start();
            for (String one : some) {
                due(run, one, on.answer(one), (Long) call[1]);
            }
            asModel(run, some);
            Run behind = run.then(some.toArray(new String[0]));
            same(behind, before, behind.seen());
        }
    }

    /** The least and the greatest that there is in this state; of none the greatest is below the least. */
    private static int[] boundsOf(Run run, String kind) {
        Calls on = run.start();
        switch (kind) {
            case "element":
                return new int[] {0, (int) on.answer("count(0)") - 1};
            case "wish":
                return new int[] {0, (int) on.answer("count(5)") - 1};
            case "byte":
                return new int[] {0, (int) on.answer("count(7)")};
            case "octet":
                return new int[] {0, (int) on.answer("count(8)") - 1};
            default:
                int between = kind.indexOf("..");
                return new int[] {Integer.parseInt(kind.substring(0, between)),
                    Integer.parseInt(kind.substring(between + 2))};
        }
    }

    /** All texts of calls whose arguments are at a bound, but for two at most that are beyond. */
    private static void spell(String ahead, int at, int[][] bounds, int beyond, List<String> fine,
        List<String> refused) {
        if (at == bounds.length) {
            (beyond > 0 ? refused : fine).add(ahead.replaceFirst(", $", "") + ")");
            return;
        }
        int least = bounds[at][0];
        int most = bounds[at][1];
        if (least <= most) {
            spell(ahead + least + ", ", at + 1, bounds, beyond, fine, refused);
            if (most > least) {
                spell(ahead + most + ", ", at + 1, bounds, beyond, fine, refused);
            }
        }
        // least - 1 and most + 1 may be the same where there is none
        int[] others = {least - 1, most + 1, Integer.MIN_VALUE, Integer.MAX_VALUE, least + (1 << 16), least + (1 << 31),
            -1 << 8, 1 << 9};
        boolean none = least > most;
        for (int i = 0; i < others.length && (none || beyond < 2); i++) {
            // of two that are beyond the second goes just beyond
            if (beyond == 0 || i < 2) {
                spell(ahead + others[i] + ", ", at + 1, bounds, beyond + 1, fine, refused);
            }
        }
    }

    private static void asModel(Run run, List<String> calls) {
        Calls on = run.start();
        Calls model = run.startModel();
        for (String call : calls) {
            due(run, call, on.answer(call), model.answer(call));
        }
    }

    private static void due(Run run, String call, long got, long want) {
        checks++;
        if (got != want) {
            wrong++;
            System.out.println("behind " + run + " " + call + " answered " + got + ", due is " + want);
        }
    }

    private static void same(Run run, Map<String, Long> due, Map<String, Long> got) {
        checks++;
        if (!due.equals(got)) {
            wrong++;
            for (Map.Entry<String, Long> one : due.entrySet()) {
                if (!one.getValue().equals(got.get(one.getKey()))) {
                    System.out.println("behind " + run + " " + one.getKey() + " is " + got.get(one.getKey())
                        + ", due is " + one.getValue());
                }
            }
        }
    }
}
