import java.util.ArrayList;
import java.util.Arrays;
import java.util.LinkedHashMap;
import java.util.List;
import java.util.Map;

/** Calls that lead to a state. They can be made again on a new object, as often as the state is needed. */
final class Run {
    /** Calls that show the whole state but for the TAPE's bytes; they change nothing, and leave room for a run. */
    private static final List<String> SHOWING = showing();
    /** Calls that show the TAPE's bytes by what they tell; these change the object. */
    private static final List<String> SHOWING_TAPE = showingTape();

    private final List<String> calls;

    private Run(List<String> calls) {
        this.calls = calls;
    }

    /** A new object. */
    static Run none() {
        return new Run(List.of());
    }

    /** A new object to which a TEXT was told. */
    static Run of(String text) {
        return none().fed(text).then("array()");
    }

    /** The text comes behind the TAPE. */
    Run fed(String text) {
        List<String> all = new ArrayList<>(calls);
        int ahead = (int) start().answer("count(7)");
        for (int at = 0; at < text.length(); at += 20) {
            StringBuilder feed = new StringBuilder("feed(");
            for (int i = 0; i < 20; i += 4) {
                int four = 0;
                for (int j = at + i; j < at + i + 4; j++) {
                    four = four << 8 | (j < text.length() ? text.charAt(j) : ' ');
                }
                feed.append(i == 0 ? "" : ", ").append(four);
            }
            all.add(feed.append(")").toString());
        }
        all.add("end(" + (ahead + text.length()) + ")");
        return new Run(all);
    }

    Run told(String text) {
        return fed(text).then("array()");
    }

    Run then(String... more) {
        List<String> all = new ArrayList<>(calls);
        all.addAll(Arrays.asList(more));
        return new Run(all);
    }

    Run times(int count, String call) {
        Run made = this;
        for (int i = 0; i < count; i++) {
            made = made.then(call);
        }
        return made;
    }

    /** On the class; on the model, if java is told -Dmodel=true: so tests themselves can be tested. */
    Calls start() {
        return made(Boolean.getBoolean("model") ? Calls.onModel() : Calls.onClass());
    }

    Calls startModel() {
        return made(Calls.onModel());
    }

    private Calls made(Calls on) {
        for (String call : calls) {
            on.answer(call);
        }
        return on;
    }

    /** What the object that the run leads to answers to everything that shows its state. */
    Map<String, Long> seen() {
        return seen(false);
    }

    Map<String, Long> seenByModel() {
        return seen(true);
    }

    private Map<String, Long> seen(boolean byModel) {
        Map<String, Long> answers = new LinkedHashMap<>();
        Calls on = byModel ? startModel() : start();
        for (String call : SHOWING) {
            answers.put(call, on.answer(call));
        }
        Calls other = byModel ? startModel() : start();
        for (String call : SHOWING_TAPE) {
            answers.put("TAPE: " + call, other.answer(call));
        }
        return answers;
    }

    private static List<String> showing() {
        List<String> all = new ArrayList<>();
        add(all, "count", 9);
        add(all, "fault", 2);
        add(all, "element", 5, 2);
        add(all, "wish", 5, 2);
        add(all, "weight", 5, 5);
        add(all, "share", 5, 5);
        add(all, "gain", 12, 5);
        add(all, "power", 12, 3);
        add(all, "total", 3);
        add(all, "room", 2);
        add(all, "twins", 12);
        add(all, "cut", 5, 4);
        add(all, "cutGain", 12, 4);
        add(all, "error", 12, 3);
        add(all, "loud", 12);
        add(all, "nearest", 12);
        add(all, "step", 3);
        add(all, "frail", 2);
        add(all, "fewest", 2);
        add(all, "octet", 30);
        for (String call : new String[] {"rank", "solved", "quiet", "side", "sets", "spares", "weakest", "farthest",
            "exactly", "looks", "easiest", "deafer"}) {
            all.add(call + "()");
        }
        return all;
    }

    private static List<String> showingTape() {
        List<String> all = new ArrayList<>(List.of("array()", "fault(0)", "fault(1)"));
        add(all, "count", 9);
        add(all, "element", 5, 2);
        add(all, "wish", 5, 2);
        add(all, "octet", 30);
        return all;
    }

    private static void add(List<String> all, String name, int count) {
        for (int i = 0; i < count; i++) {
            all.add(name + "(" + i + ")");
        }
    }

    private static void add(List<String> all, String name, int count, int whats) {
        for (int i = 0; i < count; i++) {
            for (int what = 0; what < whats; what++) {
                all.add(name + "(" + i + ", " + what + ")");
            }
        }
    }

    @Override
    public String toString() {
        return calls.isEmpty() ? "a new object" : String.join(" ", calls);
    }
}
