import java.io.IOException;
import java.nio.file.Files;
import java.nio.file.Path;
import java.util.Set;
import java.util.TreeSet;
import java.util.regex.Matcher;
import java.util.regex.Pattern;

/** What README.md shows is what the class answers, and its table has every call of the document's face. */
public final class ReadmeTest {
    private static final Pattern CALL = Pattern.compile("x\\.(\\w+\\([^)]*\\));\\s+// (-?\\d+|NONE|NO_SUCH)\\b.*");
    private static final Pattern TEXT = Pattern.compile("// \"([^\"]*)\".*");

    private static int wrong;

    private static void check(boolean holds, String what) {
        if (!holds) {
            wrong++;
            System.out.println(what);
        }
    }

    public static void main(String[] args) throws IOException {
        String readme = Files.readString(Path.of("README.md"));
        checkExample(readme.substring(readme.indexOf("```java\n") + 8, readme.indexOf("```\n")).split("\n"));
        checkTable(readme);
        System.out.println(wrong == 0 ? "README.md says what is so" : wrong + " faults of README.md");
        if (wrong != 0) {
            System.exit(1);
        }
    }

    private static void checkExample(String[] lines) {
        check(lines[0].equals("DeafArray x = new DeafArray();"), "the example makes no object");
        Calls calls = Calls.onClass();
        String text = "";
        StringBuilder fed = new StringBuilder();
        for (int i = 1; i < lines.length; i++) {
            Matcher told = TEXT.matcher(lines[i]);
            Matcher call = CALL.matcher(lines[i]);
            if (told.matches()) {
                text = told.group(1);
                fed.setLength(0);
            } else if (call.matches()) {
                long got = calls.answer(call.group(1));
                check(got == numberOf(call.group(2)), lines[i] + " is answered by " + got);
                noteBytes(call.group(1), fed);
                boolean reads = call.group(1).equals("array()");
                check(!reads || fed.toString().equals(text), "fed is " + fed + ", not " + text);
            } else {
                check(lines[i].isEmpty(), "not a call with its answer: " + lines[i]);
            }
        }
        check(calls.used() > 20, "the example has few calls");
    }

    private static long numberOf(String answer) {
        switch (answer) {
            case "NONE":
                return DeafArray.NONE;
            case "NO_SUCH":
                return DeafArray.NO_SUCH;
            default:
                return Long.parseLong(answer);
        }
    }

    /** What is fed, and cut, as a text. */
    private static void noteBytes(String call, StringBuilder fed) {
        String[] numbers = call.substring(call.indexOf('(') + 1, call.length() - 1).split(", ");
        if (call.startsWith("feed(")) {
            for (String number : numbers) {
                for (int shift = 24; shift >= 0; shift -= 8) {
                    fed.append((char) (Integer.parseInt(number) >> shift & 255));
                }
            }
        } else if (call.startsWith("end(")) {
            fed.setLength(Integer.parseInt(numbers[0]));
        }
    }

    private static void checkTable(String readme) {
        Set<String> listed = new TreeSet<>();
        String table = readme.substring(readme.indexOf("| what it is about"), readme.indexOf("## How to run"));
        Matcher name = Pattern.compile("`(\\w+)`").matcher(table);
        while (name.find()) {
            check(listed.add(name.group(1)), "the table has twice " + name.group(1));
        }
        check(listed.equals(new Face().names), "the table's calls are not the document's: " + listed);
    }
}
