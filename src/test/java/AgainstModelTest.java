import java.lang.reflect.InvocationTargetException;
import java.lang.reflect.Method;
import java.util.ArrayList;
import java.util.Comparator;
import java.util.List;
import java.util.Random;

/**
 * Runs of calls, drawn by a fixed seed, on DeafArray and on ModelArray: each answer must be the same.
 * Arguments: how many runs (400), the seed (1).
 */
public final class AgainstModelTest {
    private static final String[] LEGAL = {"element ", "broken ", "look ", "deaf ", "element ", "deaf "};
    private static final String[] ODD = {"array", "steps", "lock", "elements", "#", ";", " ", "\n", "A", "100", "12",
        "007", "0", "99999999999999999999", "look", "deaf", "element", "broken", "\t", "\u00e9", ""};

    private final Random random;
    private final List<Method> methods = new ArrayList<>();
    private final StringBuilder log = new StringBuilder();
    private DeafArray real;
    private ModelArray model;
    private int wrong;

    private AgainstModelTest(long seed) {
        random = new Random(seed);
        for (Method method : DeafArray.class.getDeclaredMethods()) {
            if (java.lang.reflect.Modifier.isPublic(method.getModifiers())) {
                methods.add(method);
            }
        }
        methods.sort(Comparator.comparing(Method::getName));
    }

    public static void main(String[] args) throws ReflectiveOperationException {
        int runs = args.length > 0 ? Integer.parseInt(args[0]) : 400;
        AgainstModelTest test = new AgainstModelTest(args.length > 1 ? Long.parseLong(args[1]) : 1);
        if (test.methods.size() != 60 - 1) {
            throw new IllegalStateException("promises 2 to 60 have a method each");
        }
        for (int i = 0; i < runs; i++) {
            test.run();
        }
        System.out.println(test.wrong == 0 ? "all runs are as the model's" : test.wrong + " runs are not");
        if (test.wrong != 0) {
            System.exit(1);
        }
    }

    private void run() throws ReflectiveOperationException {
        real = new DeafArray();
        model = new ModelArray();
        log.setLength(0);
        boolean same = true;
        for (int i = 0; i < 3 && same; i++) {
            same = random.nextInt(12) == 0 || tellText(random.nextInt(5) == 0 ? oddText() : goodText());
            for (int j = 0; j < 40 && same; j++) {
                same = call(methods.get(random.nextInt(methods.size())));
            }
        }
        if (!same) {
            wrong++;
            System.out.println(log);
        }
    }

    private String goodText() {
        StringBuilder text = new StringBuilder("array steps " + (1 + random.nextInt(99)) + ";");
        List<Integer> positions = drawn(random.nextInt(10) == 0 ? random.nextInt(6) : 2 + random.nextInt(4));
        List<Integer> wishes = drawn(random.nextInt(10) == 0 ? random.nextInt(5) : 2 + random.nextInt(3));
        boolean looking = random.nextInt(12) > 0;
        List<String> lines = new ArrayList<>();
        for (int p : positions) {
            lines.add((random.nextInt(6) == 0 ? "broken " : "element ") + p + ";");
        }
        for (int i = 0; i < wishes.size(); i++) {
            lines.add((i == 0 && looking ? "look " : "deaf ") + wishes.get(i) + ";");
        }
        java.util.Collections.shuffle(lines, random);
        for (String line : lines) {
            text.append(line);
        }
        return text.toString();
    }

    private List<Integer> drawn(int count) {
        List<Integer> all = new ArrayList<>();
        for (int i = 0; i < 12; i++) {
            all.add(i);
        }
        java.util.Collections.shuffle(all, random);
        return all.subList(0, count);
    }

    private String oddText() {
        StringBuilder text = new StringBuilder(random.nextInt(8) == 0 ? "" : "array steps 3;");
        int count = random.nextInt(12);
        for (int i = 0; i < count; i++) {
            text.append(LEGAL[random.nextInt(LEGAL.length)]).append(random.nextInt(12)).append(";");
            if (random.nextInt(10) == 0) {
                text.append(ODD[random.nextInt(ODD.length)]);
            }
        }
        if (text.length() > 0 && random.nextInt(3) == 0) {
            int at = random.nextInt(text.length());
            text.replace(at, at + 1, ODD[random.nextInt(ODD.length)]);
        }
        if (text.length() > 0 && random.nextInt(4) == 0) {
            text.setLength(random.nextInt(text.length()));
        }
        return text.substring(0, Math.min(300, text.length()));
    }

    private boolean tellText(String text) throws ReflectiveOperationException {
        boolean same = call("end", 0);
        for (int at = 0; at < text.length() && same; at += 20) {
            Object[] five = new Object[5];
            for (int i = 0; i < 5; i++) {
                int four = 0;
                for (int j = 0; j < 4; j++) {
                    int from = at + 4 * i + j;
                    four = four << 8 | (from < text.length() ? text.charAt(from) : ' ');
                }
                five[i] = four;
            }
            same = call("feed", five);
        }
        return same && call("end", text.length()) && call("array") && call("fault", 0) && call("fault", 1)
            && call("count", 6);
    }

    private boolean call(String name, Object... arguments) throws ReflectiveOperationException {
        for (Method method : methods) {
            if (method.getName().equals(name)) {
                return call(method, arguments);
            }
        }
        throw new IllegalStateException(name);
    }

    private boolean call(Method method) throws ReflectiveOperationException {
        String name = method.getName();
        if (name.equals("feed") || name.equals("array") && random.nextInt(4) > 0) {
            return true;
        }
        // the model needs long for these
        if ((name.equals("placed") || name.equals("sealed")) && random.nextInt(3) > 0) {
            return true;
        }
        Object[] arguments = new Object[method.getParameterCount()];
        String[] kinds = kindsOf(name);
        for (int i = 0; i < arguments.length; i++) {
            arguments[i] = argument(kinds[i]);
        }
        boolean same = call(method, arguments);
        if (name.equals("tell")) {
            for (int i = -1; i <= model.out.length() && same; i++) {
                same = call("octet", i);
            }
        }
        return same;
    }

    /** Of which kind each argument is. */
    private static String[] kindsOf(String name) {
        switch (name) {
            case "element", "without", "cut", "weight":
                return new String[] {"element", "what"};
            case "hears", "moves":
                return new String[] {"element", "direction"};
            case "gain", "power", "cutGain", "cutPower", "error":
                return new String[] {"direction", "what"};
            case "louder":
                return new String[] {"direction", "direction"};
            case "hush", "sealed":
                return new String[] {"above", "below", "two"};
            case "beam", "bounded", "coarsest":
                return new String[] {"above", "below"};
            case "wish":
                return new String[] {"element", "two"};
            case "share":
                return new String[] {"element", "what"};
            case "likeness":
                return new String[] {"direction", "direction", "two"};
            case "leak":
                return new String[] {"element", "direction", "what"};
            case "polish":
                return new String[] {"times", "what"};
            case "placed":
                return new String[] {"times", "two"};
            case "both":
                return new String[] {"direction", "factor", "factor", "direction", "what"};
            case "count":
                return new String[] {"direction"};
            case "steps":
                return new String[] {"above"};
            case "better", "tell", "breaks", "mends":
                return new String[] {"element"};
            case "loud", "look", "deaf", "hear", "twins", "nearest", "within", "octet", "end":
                return new String[] {"direction"};
            default:
                return new String[] {"what"};
        }
    }

    private int argument(String kind) {
        if (random.nextInt(60) == 0) {
            int[] odd = {Integer.MIN_VALUE, Integer.MAX_VALUE, -1, 12, 100, -10, 5, 1 << 20};
            return odd[random.nextInt(odd.length)];
        }
        switch (kind) {
            case "element":
                return random.nextInt(20) == 0 ? 5 : random.nextInt(5);
            case "direction":
                return random.nextInt(30) == 0 ? 12 : random.nextInt(12);
            case "what":
                return random.nextInt(5);
            case "two":
                return random.nextInt(20) == 0 ? 2 : random.nextInt(2);
            case "above":
                return random.nextInt(3) == 0 ? random.nextInt(4) : random.nextInt(100);
            case "below":
                return random.nextInt(3) == 0 ? 1 + random.nextInt(4) : 1 + random.nextInt(99);
            case "factor":
                return random.nextInt(21) - 10;
            default:
                return random.nextInt(4) == 0 ? random.nextInt(23) : 1 + random.nextInt(4);
        }
    }

    private boolean call(Method method, Object... arguments) throws ReflectiveOperationException {
        long answered;
        long due;
        try {
            answered = ((Number) method.invoke(real, arguments)).longValue();
            Method other = ModelArray.class.getDeclaredMethod(method.getName(), method.getParameterTypes());
            due = ((Number) other.invoke(model, arguments)).longValue();
        } catch (InvocationTargetException thrown) {
            log.append(method.getName()).append(java.util.Arrays.toString(arguments)).append(" threw\n");
            thrown.getCause().printStackTrace(System.out);
            return false;
        }
        log.append(method.getName()).append(java.util.Arrays.toString(arguments)).append(" answered ").append(answered);
        log.append(answered == due ? "\n" : ", the model " + due + "\n");
        return answered == due;
    }
}
