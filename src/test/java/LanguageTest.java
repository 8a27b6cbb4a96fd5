import java.io.IOException;
import java.lang.management.ManagementFactory;
import java.lang.reflect.Constructor;
import java.lang.reflect.Field;
import java.lang.reflect.InvocationTargetException;
import java.lang.reflect.Method;
import java.lang.reflect.Modifier;
import java.nio.file.Files;
import java.nio.file.Path;
import java.util.ArrayList;
import java.util.Arrays;
import java.util.HashMap;
import java.util.List;
import java.util.Map;
import java.util.Random;
import java.util.Set;
import java.util.TreeSet;
import java.util.regex.Matcher;
import java.util.regex.Pattern;
import java.util.stream.Collectors;

/** What can be seen of LANGUAGE.md from outside: the face, forbidden words, sizes, and that no call makes objects. */
public final class LanguageTest {
    private static final Path SOURCE = Path.of("src/main/java/DeafArray.java");
    private static final Face FACE = new Face();

    private static int wrong;

    private static void check(boolean holds, String what) {
        if (!holds) {
            wrong++;
            System.out.println(what);
        }
    }

    public static void main(String[] args) throws IOException, IllegalAccessException {
        checkFace();
        checkNothingThrown();
        checkInside();
        checkWords(withoutTexts(Files.readString(SOURCE)));
        checkMethods(withoutTexts(Files.readString(SOURCE)));
        checkRoom();
        System.out.println(wrong == 0 ? "the language's rules hold" : wrong + " faults");
        if (wrong != 0) {
            System.exit(1);
        }
    }

    private static void checkFace() throws IllegalAccessException {
        int kind = DeafArray.class.getModifiers();
        check(Modifier.isFinal(kind) && Modifier.isPublic(kind), "1: the class is not public and final");
        Set<String> methods = new TreeSet<>();
        for (Method method : DeafArray.class.getDeclaredMethods()) {
            if (Modifier.isPublic(method.getModifiers())) {
                methods.add(method.getReturnType() + " " + method.getName() + "("
                    + typesOf(method.getParameterTypes()) + ")");
                check(!Modifier.isStatic(method.getModifiers()), "1: " + method);
            } else {
                check(Modifier.isPrivate(method.getModifiers()), "1: " + method);
                check(!FACE.names.contains(method.getName()), "1: " + method);
            }
        }
        check(methods.equals(FACE.methods), "1: methods are " + methods + ", due are " + FACE.methods);
        Set<String> constants = new TreeSet<>();
        for (Field field : DeafArray.class.getDeclaredFields()) {
            if (Modifier.isPublic(field.getModifiers())) {
                constants.add(field.getType() + " " + field.getName() + " = " + valueOf(field));
            } else {
                check(Modifier.isPrivate(field.getModifiers()), "1: " + field);
            }
        }
        check(constants.equals(FACE.constants), "1: constants are " + constants + ", due are " + FACE.constants);
        Set<String> constructors = new TreeSet<>();
        for (Constructor<?> constructor : DeafArray.class.getDeclaredConstructors()) {
            check(Modifier.isPublic(constructor.getModifiers()), "1: " + constructor);
            constructors.add(constructor.getName() + "(" + typesOf(constructor.getParameterTypes()) + ")");
        }
        check(constructors.equals(FACE.constructors), "1: constructors are " + constructors);
    }

    private static String typesOf(Class<?>[] types) {
        return Arrays.stream(types).map(Class::getName).collect(Collectors.joining(", "));
    }

    private static String valueOf(Field constant) throws IllegalAccessException {
        long value = constant.getLong(null);
        return value == Long.MIN_VALUE ? "Long.MIN_VALUE" : Long.toString(value);
    }

    private static void checkInside() {
        Class<?>[] inside = DeafArray.class.getDeclaredClasses();
        check(inside.length < 12, "11: classes");
        List<Class<?>> all = new ArrayList<>(List.of(inside));
        all.add(DeafArray.class);
        for (Class<?> one : all) {
            check(one == DeafArray.class || Modifier.isStatic(one.getModifiers()), "2: " + one);
            int fields = 0;
            for (Field field : one.getDeclaredFields()) {
                boolean constant = Modifier.isStatic(field.getModifiers());
                fields += constant ? 0 : 1;
                check(!constant || Modifier.isFinal(field.getModifiers()), "5: " + field);
            }
            check(fields <= 20, "11: fields of " + one);
            for (Method method : one.getDeclaredMethods()) {
                check(one == DeafArray.class || !FACE.names.contains(method.getName()), "1: " + method);
                check(method.getParameterCount() <= 7, "11: " + method);
            }
        }
    }

    /** Comments and texts become blanks, so that their words do not count; lines stay. */
    private static String withoutTexts(String source) {
        Pattern texts = Pattern.compile("/\\*.*?\\*/|//[^\n]*|\"[^\"\n]*\"|'(\\\\.|[^'])'", Pattern.DOTALL);
        return texts.matcher(source).replaceAll(found -> found.group().replaceAll("[^\n]", " "));
    }

    private static void checkWords(String source) {
        String words = "throw try catch synchronized assert import throws instanceof System Thread Random";
        for (String word : words.split(" ")) {
            check(!Pattern.compile("\\b" + word + "\\b").matcher(source).find(), "4, 6, 13: " + word);
        }
        check(!source.contains("->") && !source.contains("::"), "2: a lambda or a method reference");
        check(!Pattern.compile("\\w+Exact\\b").matcher(source).find(), "4: a function of Exact");
        Matcher library = Pattern.compile("\\b(Math|Integer|Long|String|Arrays)\\.(\\w+)").matcher(source);
        Set<String> fine = Set.of("Math.abs", "Math.max", "Math.min", "Math.floorDiv", "Integer.bitCount",
            "Long.MIN_VALUE");
        while (library.find()) {
            check(fine.contains(library.group()), "4: " + library.group());
        }
    }

    private static void checkMethods(String source) {
        String[] lines = source.split("\n", -1);
        Map<String, String> bodies = new HashMap<>();
        int start = -1;
        String end = "";
        for (int i = 0; i < lines.length; i++) {
            boolean opens = lines[i].matches("\\s+[\\w\\[\\] ]+\\(.*\\) \\{");
            if (start < 0 && opens && !lines[i].matches("\\s+(if|for|while|switch).*")) {
                start = i;
                end = lines[i].replaceAll("\\S.*", "") + "}";
            } else if (start >= 0 && lines[i].equals(end)) {
                check(i - start < 60, "11: a method of " + (i - start + 1) + " lines at " + (start + 1));
                String name = lines[start].replaceFirst("\\(.*", "").replaceFirst(".*\\s", "");
                // methods of several classes that bear one name count as one: so it may only seem deeper than it is
                bodies.merge(name, String.join("\n", List.of(lines).subList(start + 1, i)), String::concat);
                start = -1;
            }
            check(lines[i].length() <= 120, "a long line, " + (i + 1));
        }
        check(bodies.keySet().containsAll(FACE.names), "methods are overlooked");
        Set<String> deep = new TreeSet<>();
        for (String name : FACE.names) {
            findDeep(bodies, List.of(name), deep);
        }
        check(deep.isEmpty(), "8, 11: calls go deeper than eight, or are a recursion, at " + deep);
    }

    /** Of calls that stand open at once the last is followed further; where that goes too deep is noted. */
    private static void findDeep(Map<String, String> bodies, List<String> open, Set<String> deep) {
        String last = open.get(open.size() - 1);
        if (open.size() > 8 || open.indexOf(last) < open.size() - 1) {
            deep.add(last);
            return;
        }
        Set<String> followed = new TreeSet<>();
        Matcher called = Pattern.compile("\\b(\\w+)\\(").matcher(bodies.get(last));
        while (called.find()) {
            if (bodies.containsKey(called.group(1)) && followed.add(called.group(1))) {
                List<String> further = new ArrayList<>(open);
                further.add(called.group(1));
                findDeep(bodies, further, deep);
            }
        }
    }

    /** Arguments at all bounds and far beyond, in states that earlier calls left, bytes of any kind among them. */
    private static void checkNothingThrown() throws IllegalAccessException {
        int[] odd = {Integer.MIN_VALUE, Integer.MAX_VALUE, -100, -10, -9, -2, -1, 0, 1, 2, 3, 4, 5, 6, 9, 11, 12, 20,
            21, 99, 100, 300, 301, 1 << 16, 0x3b3b3b3b, 0x6c6f6f6b, 0x61727261};
        Random random = new Random(7);
        for (Method method : DeafArray.class.getDeclaredMethods()) {
            DeafArray x = new DeafArray();
            for (int i = 0; i < 300 && Modifier.isPublic(method.getModifiers()); i++) {
                if (i % 100 == 50) {
                    useAll(x);
                }
                Object[] arguments = new Object[method.getParameterCount()];
                for (int j = 0; j < arguments.length; j++) {
                    arguments[j] = odd[random.nextInt(odd.length)];
                }
                try {
                    method.invoke(x, arguments);
                } catch (InvocationTargetException thrown) {
                    check(false, "7: " + method.getName() + Arrays.toString(arguments) + " " + thrown.getCause());
                }
            }
        }
    }

    /** Hundreds of the dearest calls make nothing. */
    private static void checkRoom() {
        com.sun.management.ThreadMXBean bean = (com.sun.management.ThreadMXBean) ManagementFactory.getThreadMXBean();
        long thread = Thread.currentThread().getId();
        DeafArray x = new DeafArray();
        useAll(x);
        long before = bean.getThreadAllocatedBytes(thread);
        for (int i = 0; i < 20; i++) {
            useAll(x);
        }
        long made = bean.getThreadAllocatedBytes(thread) - before;
        check(made < 20_000, "12: calls made " + made + " bytes of objects");
    }

    private static void useAll(DeafArray x) {
        x.end(0);
        // array steps 9;element 0;element 1;element 3;look 2;deaf 4;
        x.feed(0x61727261, 0x79207374, 0x65707320, 0x393b656c, 0x656d656e);
        x.feed(0x7420303b, 0x656c656d, 0x656e7420, 0x313b656c, 0x656d656e);
        x.feed(0x7420333b, 0x6c6f6f6b, 0x20323b64, 0x65616620, 0x343b2020);
        check(x.array() == 6, "the text of checkRoom");
        x.placed(5, 1);
        x.sealed(1, 9, 1);
        x.coarsest(0, 1);
        x.polish(20, 1);
        x.frail(1);
        x.fewest(1);
        x.looks();
        x.easiest();
        x.deafer();
        x.better(1);
        x.both(5, 3, 4, 2, 1);
        x.tell(0);
        x.loud(11);
        x.breaks(0);
        x.mends(0);
        x.error(3, 0);
    }
}
