import java.io.IOException;
import java.nio.file.Files;
import java.nio.file.Path;
import java.util.ArrayList;
import java.util.List;
import java.util.Set;
import java.util.TreeSet;

/** The public face as the document writes it out. */
final class Face {
    private static final Path DOCUMENT = Path.of("../shared/DOC.md");
    private static final String OPENS = "public final class DeafArray {\n";

    /** Methods as "int feed(int, int, int, int, int)". */
    final Set<String> methods = new TreeSet<>();
    final Set<String> names = new TreeSet<>();
    /** Constants as "int NONE = -1". */
    final Set<String> constants = new TreeSet<>();
    final Set<String> constructors = new TreeSet<>();

    Face() {
        String document;
        try {
            document = Files.readString(DOCUMENT);
        } catch (IOException missing) {
            throw new IllegalStateException("the document is not at " + DOCUMENT, missing);
        }
        int from = document.indexOf(OPENS) + OPENS.length();
        for (String line : document.substring(from, document.indexOf("\n}", from)).split("\n")) {
            read(line.trim().replaceFirst("^public ", "").replaceFirst(";$", ""));
        }
    }

    private void read(String member) {
        int open = member.indexOf('(');
        if (open < 0) {
            constants.add(member.replaceFirst("^static final ", ""));
        } else if (member.indexOf(' ') > open || member.indexOf(' ') < 0) {
            constructors.add(member);
        } else {
            methods.add(member.substring(0, open) + "(" + typesOf(member.substring(open + 1)) + ")");
            names.add(member.substring(member.indexOf(' ') + 1, open));
        }
    }

    /** Of "int i, int what)" the types alone. */
    private static String typesOf(String parameters) {
        List<String> types = new ArrayList<>();
        for (String parameter : parameters.replace(")", "").split(", ")) {
            if (!parameter.isEmpty()) {
                types.add(parameter.substring(0, parameter.indexOf(' ')));
            }
        }
        return String.join(", ", types);
    }
}
