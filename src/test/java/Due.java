import java.io.IOException;
import java.nio.file.Files;
import java.nio.file.Path;
import java.util.ArrayList;
import java.util.HashMap;
import java.util.List;
import java.util.Map;
import java.util.regex.Matcher;
import java.util.regex.Pattern;

/** What sentences of the document ask for. Each is quoted, and the quote must stand where it is said to. */
final class Due {
    private static final Path DOCUMENT = Path.of("../shared/DOC.md");
    /** What a sentence says that names a boundary case. */
    private static final Pattern EDGES = Pattern.compile("NONE|NO_SUCH|-1000|-2|-4|-5|\\.\\.|at most|at least|more than"
        + "|of like|of several|least|greatest|coarsest|fewest|\\btoo\\b|behind|without|stays|nothing|alone|\\b0 ?:");

    private final Map<String, String> sections = new HashMap<>();
    private final Map<String, List<String>> quotes = new HashMap<>();
    private final Map<Run, Map<String, Long>> known = new HashMap<>();
    private int wrong;
    private int checks;

    Due() {
        String document;
        try {
            document = Files.readString(DOCUMENT);
        } catch (IOException missing) {
            throw new IllegalStateException("the document is not at " + DOCUMENT, missing);
        }
        for (String section : document.split("\n## ")) {
            sections.put(section.substring(0, section.indexOf('\n')).replaceFirst(":.*", ""), plain(section));
        }
    }

    private static String plain(String text) {
        return text.replaceAll("\\s+", " ");
    }

    /** A sentence of a promise. */
    Sentence promise(int number, String quote) {
        return sentence("Promise " + number, quote);
    }

    /** A sentence of the Terms. */
    Sentence terms(String quote) {
        return sentence("Terms", quote);
    }

    /** A sentence of the document's head. */
    Sentence head(String quote) {
        return sentence("What it is", quote);
    }

    private Sentence sentence(String section, String quote) {
        String text = sections.get(section);
        if (text == null || !text.contains(plain(quote))) {
            fail(section + " does not say: " + quote);
        }
        quotes.computeIfAbsent(section, none -> new ArrayList<>()).add(plain(quote));
        return new Sentence(section + ", \"" + quote + "\"");
    }

    void fail(String text) {
        wrong++;
        System.out.println(text);
    }

    /** Every edge that a section names must stand in a quote. */
    void requireEdgesOf(String section) {
        String text = sections.get(section);
        // ahead of it stands the face
        int from = Math.max(0, text.indexOf(")`: "));
        boolean[] quoted = new boolean[text.length()];
        for (String quote : quotes.getOrDefault(section, List.of())) {
            for (int at = text.indexOf(quote); at >= 0; at = text.indexOf(quote, at + 1)) {
                java.util.Arrays.fill(quoted, at, at + quote.length(), true);
            }
        }
        Matcher edge = EDGES.matcher(text);
        for (boolean more = edge.find(from); more; more = edge.find()) {
            if (!quoted[edge.start()]) {
                fail(section + " names an edge that is not tested: " + text.substring(Math.max(from, edge.start() - 30),
                    Math.min(text.length(), edge.end() + 30)));
            }
        }
    }

    void finish() {
        System.out.println(checks + " checks, " + wrong + " not as due");
        if (wrong != 0) {
            System.exit(1);
        }
    }

    /** Checks of one sentence. */
    final class Sentence {
        private final String name;

        Sentence(String name) {
            this.name = name;
        }

        /** Calls, one behind the other on one new object that a run leads to, each with its answer. */
        Sentence answers(Run run, Object... callsAndAnswers) {
            Calls on = run.start();
            for (int i = 0; i + 1 < callsAndAnswers.length; i += 2) {
                String call = (String) callsAndAnswers[i];
                Object due = callsAndAnswers[i + 1];
                check(run, call, on.answer(call), due instanceof Character sign ? sign : ((Number) due).longValue());
            }
            return this;
        }

        /** One call with what 0, 1, 2, ..: its numbers. */
        Sentence tells(Run run, String call, long... numbers) {
            Calls on = run.start();
            for (int what = 0; what < numbers.length; what++) {
                String asked = call.replace("what", Integer.toString(what));
                check(run, asked, on.answer(asked), numbers[what]);
            }
            return this;
        }

        /** Calls that are refused with one answer, and then all is as it was. */
        Sentence refuses(Run run, long answer, String... calls) {
            for (String call : calls) {
                check(run, call, run.start().answer(call), answer);
                unchanged(run, call);
            }
            return this;
        }

        /** Whatever the call answers, it leaves all as it was; of some answers this need not hold. */
        Sentence unchanged(Run run, String call, String... but) {
            return same(run, run.then(call), but);
        }

        /** Two runs lead to one state; of some answers this need not hold. */
        Sentence same(Run run, Run other, String... but) {
            Map<String, Long> before = known.computeIfAbsent(run, Run::seen);
            Map<String, Long> behind = other.seen();
            checks++;
            for (Map.Entry<String, Long> one : before.entrySet()) {
                if (!List.of(but).contains(one.getKey()) && !one.getValue().equals(behind.get(one.getKey()))) {
                    fail(name + ": behind " + other + " " + one.getKey() + " is " + behind.get(one.getKey())
                        + ", due is " + one.getValue());
                    return this;
                }
            }
            return this;
        }

        /** OUT, when an ELEMENT's TRUE WEIGHT is TOLD. */
        Sentence writes(Run run, int element, String text) {
            Calls on = run.start();
            check(run, "tell(" + element + ")", on.answer("tell(" + element + ")"), text.length());
            StringBuilder out = new StringBuilder();
            for (int i = 0; i < text.length(); i++) {
                out.append((char) on.answer("octet(" + i + ")"));
            }
            check(run, "octet(" + text.length() + ")", on.answer("octet(" + text.length() + ")"), -1);
            if (!out.toString().equals(text)) {
                fail(name + ": " + run + " tells " + out + ", due is " + text);
            }
            return this;
        }

        void check(Run run, String call, long got, long want) {
            checks++;
            if (got != want) {
                fail(name + ": behind " + run + " " + call + " answered " + got + ", due is " + want);
            }
        }
    }
}
