import java.math.BigInteger;
import java.util.ArrayList;
import java.util.List;

/**
 * The document once more, as slow and as plain as can be: no bounds on numbers, nothing kept between calls. WEIGHTS are
 * found in another way than in the class: the LOOK's ROW TURNED, less what lies in the DEAF ones' ROWS TURNED, by its
 * own length.
 */
final class ModelArray {
    static final long NO_SUCH = Long.MIN_VALUE;

    /** ELEMENTS and WISHES, as they are or as they might be. */
    static final class Shape {
        List<Integer> positions = new ArrayList<>();
        List<Boolean> broken = new ArrayList<>();
        int look = -1;
        List<Integer> deaf = new ArrayList<>();

        Shape copy() {
            Shape made = new Shape();
            made.positions.addAll(positions);
            made.broken.addAll(broken);
            made.look = look;
            made.deaf.addAll(deaf);
            return made;
        }

        List<Integer> wishes() {
            List<Integer> all = new ArrayList<>();
            if (look >= 0) {
                all.add(look);
            }
            all.addAll(deaf);
            return all;
        }

        List<Integer> working() {
            List<Integer> found = new ArrayList<>();
            for (int i = 0; i < positions.size(); i++) {
                if (!broken.get(i)) {
                    found.add(i);
                }
            }
            return found;
        }

        ModelNumber[] row(int direction) {
            List<Integer> working = working();
            ModelNumber[] made = new ModelNumber[working.size()];
            for (int i = 0; i < made.length; i++) {
                made[i] = ModelNumber.root(direction * positions.get(working.get(i)));
            }
            return made;
        }

        Shape lookingAt(int direction) {
            Shape made = copy();
            made.look = direction;
            made.deaf.remove((Integer) direction);
            return made;
        }

        Shape withDeaf(int direction) {
            Shape made = copy();
            made.deaf.add(direction);
            return made;
        }

        Shape withBroken(int set) {
            Shape made = copy();
            for (int i = 0; i < positions.size(); i++) {
                if ((set >> i & 1) != 0) {
                    made.broken.set(i, true);
                }
            }
            return made;
        }

        boolean twins(int direction, int other) {
            ModelNumber[] one = row(direction);
            ModelNumber[] two = row(other);
            for (int i = 1; i < one.length; i++) {
                if (!one[0].times(two[i]).same(two[0].times(one[i]))) {
                    return false;
                }
            }
            return true;
        }

        List<Integer> aside() {
            List<Integer> found = new ArrayList<>();
            for (int k = 0; k < 12; k++) {
                if (!wishes().contains(k) && !(look >= 0 && twins(look, k))) {
                    found.add(k);
                }
            }
            return found;
        }

        ModelNumber gain(ModelNumber[] weights, int direction) {
            ModelNumber sum = ModelNumber.ZERO;
            for (int i = 0; i < positions.size(); i++) {
                sum = sum.plus(weights[i].times(ModelNumber.root(direction * positions.get(i))));
            }
            return sum;
        }

        /** TRUE WEIGHTS, or null. */
        ModelNumber[] weights() {
            if (look < 0) {
                return null;
            }
            List<ModelNumber[]> basis = new ArrayList<>();
            for (int k : deaf) {
                ModelNumber[] rest = apart(turned(row(k)), basis);
                if (!isZero(rest)) {
                    basis.add(rest);
                }
            }
            ModelNumber[] rest = apart(turned(row(look)), basis);
            if (isZero(rest)) {
                return null;
            }
            ModelNumber length = meet(rest, rest).inverse();
            ModelNumber[] made = new ModelNumber[positions.size()];
            List<Integer> working = working();
            for (int i = 0; i < made.length; i++) {
                int at = working.indexOf(i);
                made[i] = at < 0 ? ModelNumber.ZERO : rest[at].times(length);
            }
            return made;
        }

        ModelNumber total() {
            ModelNumber[] weights = weights();
            if (weights == null) {
                return null;
            }
            ModelNumber sum = ModelNumber.ZERO;
            for (ModelNumber weight : weights) {
                sum = sum.plus(weight.power());
            }
            return sum;
        }

        boolean lost(int i) {
            List<ModelNumber[]> ahead = new ArrayList<>();
            for (int j = 0; j < i; j++) {
                ahead.add(row(wishes().get(j)));
            }
            int before = rankOf(ahead);
            ahead.add(row(wishes().get(i)));
            return rankOf(ahead) == before;
        }

        int rank() {
            List<ModelNumber[]> rows = new ArrayList<>();
            for (int k : wishes()) {
                rows.add(row(k));
            }
            return rankOf(rows);
        }

        List<Integer> kept() {
            List<Integer> found = new ArrayList<>();
            for (int i = 0; i < wishes().size(); i++) {
                if (!lost(i)) {
                    found.add(i);
                }
            }
            return found;
        }

        ModelNumber room() {
            List<Integer> kept = kept();
            ModelNumber[][] form = new ModelNumber[kept.size()][kept.size()];
            for (int i = 0; i < form.length; i++) {
                for (int j = 0; j < form.length; j++) {
                    form[i][j] = product(row(wishes().get(kept.get(i))), turned(row(wishes().get(kept.get(j)))));
                }
            }
            return determinant(form);
        }

        /** By Cramer's rule, over the WISHES that are not LOST. */
        ModelNumber share(int wish) {
            List<Integer> kept = kept();
            if (!kept.contains(wish)) {
                return ModelNumber.ZERO;
            }
            ModelNumber[][] form = new ModelNumber[kept.size()][kept.size()];
            for (int i = 0; i < form.length; i++) {
                for (int j = 0; j < form.length; j++) {
                    boolean asked = kept.get(j) == wish;
                    form[i][j] = asked ? ModelNumber.whole(wishes().get(kept.get(i)) == look ? 1 : 0)
                        : product(row(wishes().get(kept.get(i))), turned(row(wishes().get(kept.get(j)))));
                }
            }
            return determinant(form).times(room().inverse());
        }
    }

    static ModelNumber[] turned(ModelNumber[] row) {
        ModelNumber[] made = new ModelNumber[row.length];
        for (int i = 0; i < made.length; i++) {
            made[i] = row[i].turned();
        }
        return made;
    }

    static ModelNumber product(ModelNumber[] one, ModelNumber[] other) {
        ModelNumber sum = ModelNumber.ZERO;
        for (int i = 0; i < one.length; i++) {
            sum = sum.plus(one[i].times(other[i]));
        }
        return sum;
    }

    static ModelNumber meet(ModelNumber[] one, ModelNumber[] other) {
        return product(one, turned(other));
    }

    static ModelNumber[] apart(ModelNumber[] row, List<ModelNumber[]> basis) {
        ModelNumber[] rest = row.clone();
        for (ModelNumber[] one : basis) {
            ModelNumber factor = meet(row, one).times(meet(one, one).inverse());
            for (int i = 0; i < rest.length; i++) {
                rest[i] = rest[i].minus(factor.times(one[i]));
            }
        }
        return rest;
    }

    static boolean isZero(ModelNumber[] row) {
        for (ModelNumber number : row) {
            if (!number.isZero()) {
                return false;
            }
        }
        return true;
    }

    static int rankOf(List<ModelNumber[]> rows) {
        List<ModelNumber[]> left = new ArrayList<>();
        for (ModelNumber[] row : rows) {
            left.add(row.clone());
        }
        int width = rows.isEmpty() ? 0 : rows.get(0).length;
        int rank = 0;
        for (int column = 0; column < width; column++) {
            for (int i = rank; i < left.size(); i++) {
                if (!left.get(i)[column].isZero()) {
                    ModelNumber[] pivot = left.remove(i);
                    left.add(rank, pivot);
                    for (int j = rank + 1; j < left.size(); j++) {
                        ModelNumber factor = left.get(j)[column].times(pivot[column].inverse());
                        for (int k = 0; k < width; k++) {
                            left.get(j)[k] = left.get(j)[k].minus(factor.times(pivot[k]));
                        }
                    }
                    rank++;
                    break;
                }
            }
        }
        return rank;
    }

    static ModelNumber determinant(ModelNumber[][] form) {
        if (form.length == 0) {
            return ModelNumber.ONE;
        }
        ModelNumber sum = ModelNumber.ZERO;
        for (int i = 0; i < form.length; i++) {
            ModelNumber[][] minor = new ModelNumber[form.length - 1][form.length - 1];
            for (int j = 1; j < form.length; j++) {
                for (int k = 0, to = 0; k < form.length; k++) {
                    if (k != i) {
                        minor[j - 1][to++] = form[j][k];
                    }
                }
            }
            ModelNumber one = form[0][i].times(determinant(minor));
            sum = i % 2 == 0 ? sum.plus(one) : sum.minus(one);
        }
        return sum;
    }

    // ---- the state ----

    Shape shape = new Shape();
    int steps;
    int lines;
    List<Integer> tape = new ArrayList<>();
    String out = "";
    int fault;
    int place = -1;

    private static boolean direction(int k) {
        return k >= 0 && k <= 11;
    }

    private boolean has(int element) {
        return element >= 0 && element < shape.positions.size();
    }

    private static boolean fraction(int above, int below) {
        return above >= 0 && above <= 99 && below >= 1 && below <= 99;
    }

    private static ModelNumber by(long above, long below) {
        return ModelNumber.of(above, 0, 0, 0, below);
    }

    int feed(int a, int b, int c, int d, int e) {
        if (tape.size() > 280) {
            return -1;
        }
        for (int four : new int[] {a, b, c, d, e}) {
            tape.add(four >>> 24);
            tape.add(four >>> 16 & 255);
            tape.add(four >>> 8 & 255);
            tape.add(four & 255);
        }
        return tape.size();
    }

    int end(int n) {
        if (n < 0 || n > tape.size()) {
            return -1;
        }
        tape = new ArrayList<>(tape.subList(0, n));
        return n;
    }

    /** Splits first, into all TOKENS with their places; then takes TOKENS one by one. */
    int array() {
        StringBuilder bytes = new StringBuilder();
        for (int octet : tape) {
            bytes.append((char) octet);
        }
        tape.clear();
        String text = bytes.toString();
        List<String> tokens = new ArrayList<>();
        List<Integer> places = new ArrayList<>();
        java.util.regex.Matcher matcher = java.util.regex.Pattern.compile("[a-z]+|[0-9]+|;|[^ \n]").matcher(text);
        while (matcher.find()) {
            tokens.add(matcher.group());
            places.add(matcher.start());
        }
        tokens.add("");
        places.add(text.length());
        fault = 0;
        place = -1;
        Shape told = new Shape();
        int[] toldSteps = {0};
        int toldLines = 0;
        int at = 0;
        while (!tokens.get(at).isEmpty()) {
            String[] rest = {tokens.get(at), after(tokens, at + 1), after(tokens, at + 2), after(tokens, at + 3)};
            int[] wrong = toldLines == 0 ? firstLine(rest, toldSteps) : laterLine(rest, told);
            if (wrong != null) {
                fault = wrong[0];
                place = places.get(at + wrong[1]);
                return -4;
            }
            at += toldLines == 0 ? 4 : 3;
            toldLines++;
        }
        shape = told;
        steps = toldSteps[0];
        lines = toldLines;
        return lines;
    }

    private static String after(List<String> tokens, int at) {
        return at < tokens.size() ? tokens.get(at) : "";
    }

    private static int[] firstLine(String[] rest, int[] toldSteps) {
        if (!rest[0].equals("array")) {
            return new int[] {1, 0};
        }
        if (!rest[1].equals("steps")) {
            return new int[] {1, 1};
        }
        if (!rest[2].matches("[0-9]+")) {
            return new int[] {1, 2};
        }
        BigInteger number = new BigInteger(rest[2]);
        if (number.signum() == 0 || number.compareTo(BigInteger.valueOf(99)) > 0) {
            return new int[] {2, 2};
        }
        toldSteps[0] = number.intValue();
        return rest[3].equals(";") ? null : new int[] {1, 3};
    }

    private static int[] laterLine(String[] rest, Shape told) {
        String word = rest[0];
        if (!word.equals("element") && !word.equals("broken") && !word.equals("look") && !word.equals("deaf")) {
            return new int[] {1, 0};
        }
        boolean stands = word.equals("element") || word.equals("broken");
        if (stands && told.positions.size() == 5 || word.equals("look") && told.look >= 0
            || word.equals("deaf") && told.deaf.size() == 4) {
            return new int[] {3, 0};
        }
        if (!rest[1].matches("[0-9]+")) {
            return new int[] {1, 1};
        }
        BigInteger large = new BigInteger(rest[1]);
        int number = large.compareTo(BigInteger.valueOf(11)) > 0 ? 12 : large.intValue();
        if (number == 12 || (stands ? told.positions : told.wishes()).contains(number)) {
            return new int[] {2, 1};
        }
        if (stands) {
            told.positions.add(number);
            told.broken.add(word.equals("broken"));
        } else if (word.equals("look")) {
            told.look = number;
        } else {
            told.deaf.add(number);
        }
        return rest[2].equals(";") ? null : new int[] {1, 2};
    }

    int fault(int what) {
        return what == 0 ? fault : what == 1 ? place : -1;
    }

    int count(int what) {
        int deaf = 0;
        for (int k : shape.deaf) {
            deaf += 1 << k;
        }
        int[] all = {shape.positions.size(), shape.working().size(), steps, shape.look, deaf, shape.wishes().size(),
            lines, tape.size(), out.length()};
        return what >= 0 && what < all.length ? all[what] : -1;
    }

    int element(int element, int what) {
        if (!has(element) || what < 0 || what > 1) {
            return -2;
        }
        return what == 0 ? shape.positions.get(element) : shape.broken.get(element) ? 1 : 0;
    }

    int hears(int element, int k) {
        return has(element) && direction(k) ? k * shape.positions.get(element) % 12 : -2;
    }

    int wish(int i, int what) {
        if (i < 0 || i >= shape.wishes().size() || what < 0 || what > 1) {
            return -2;
        }
        return what == 0 ? shape.wishes().get(i) : shape.lost(i) ? 1 : 0;
    }

    int rank() {
        return shape.rank();
    }

    int solved() {
        return shape.weights() == null ? 0 : 1;
    }

    long weight(int element, int what) {
        ModelNumber[] weights = shape.weights();
        return weights == null || !has(element) || what < 0 || what > 4 ? NO_SUCH : weights[element].told(what);
    }

    private ModelNumber gain(int k) {
        return shape.gain(shape.weights(), k);
    }

    long gain(int k, int what) {
        return solved() == 0 || !direction(k) || what < 0 || what > 4 ? NO_SUCH : gain(k).told(what);
    }

    long power(int k, int what) {
        return solved() == 0 || !direction(k) || what < 0 || what > 2 ? NO_SUCH : gain(k).power().toldReal(what);
    }

    long total(int what) {
        return solved() == 0 || what < 0 || what > 2 ? NO_SUCH : shape.total().toldReal(what);
    }

    int louder(int k, int other) {
        return solved() == 0 || !direction(k) || !direction(other) ? -2
            : gain(k).power().compare(gain(other).power());
    }

    int loud(int i) {
        if (solved() == 0 || i < 0 || i > 11) {
            return -2;
        }
        ModelNumber[] powers = powers(shape);
        List<Integer> order = new ArrayList<>();
        for (int k = 0; k < 12; k++) {
            order.add(k);
        }
        order.sort((one, two) -> {
            int compared = powers[two].compare(powers[one]);
            return compared != 0 ? compared : one - two;
        });
        return order.get(i);
    }

    private static ModelNumber[] powers(Shape of) {
        ModelNumber[] weights = of.weights();
        ModelNumber[] powers = new ModelNumber[12];
        for (int k = 0; k < 12; k++) {
            powers[k] = of.gain(weights, k).power();
        }
        return powers;
    }

    /** All rows of all lengths from all first ones are looked at. */
    int hush(int above, int below, int what) {
        if (solved() == 0 || !fraction(above, below) || what < 0 || what > 1) {
            return -2;
        }
        ModelNumber[] powers = powers(shape);
        for (int length = 12; length > 0; length--) {
            for (int first = 0; first < 12; first++) {
                boolean all = true;
                for (int i = 0; i < length; i++) {
                    all &= powers[(first + i) % 12].compare(by(above, below)) <= 0;
                }
                if (all) {
                    return what == 0 ? length : first;
                }
            }
        }
        return what == 0 ? 0 : -1;
    }

    int beam(int above, int below) {
        if (solved() == 0 || !fraction(above, below)) {
            return -2;
        }
        ModelNumber[] powers = powers(shape);
        for (int length = 12; length > 0; length--) {
            for (int first = 0; first < 12; first++) {
                boolean all = true;
                boolean looked = false;
                for (int i = 0; i < length; i++) {
                    all &= powers[(first + i) % 12].compare(by(above, below)) >= 0;
                    looked |= (first + i) % 12 == shape.look;
                }
                if (all && looked) {
                    return length;
                }
            }
        }
        return 0;
    }

    long share(int i, int what) {
        return solved() == 0 || i < 0 || i >= shape.wishes().size() || what < 0 || what > 4 ? NO_SUCH
            : shape.share(i).told(what);
    }

    long room(int what) {
        return what < 0 || what > 1 ? NO_SUCH : shape.room().toldReal(what);
    }

    private ModelNumber likeness(int k, int other) {
        return meet(shape.row(k), shape.row(other)).power();
    }

    int likeness(int k, int other, int what) {
        return !direction(k) || !direction(other) || what < 0 || what > 1 ? -1000
            : (int) likeness(k, other).toldReal(what);
    }

    int nearest(int k) {
        if (!direction(k)) {
            return -2;
        }
        int found = -1;
        for (int other = 0; other < 12; other++) {
            if (!shape.twins(k, other) && (found < 0 || likeness(k, other).compare(likeness(k, found)) > 0)) {
                found = other;
            }
        }
        return found;
    }

    int quiet() {
        if (solved() == 0) {
            return -2;
        }
        int found = 0;
        for (ModelNumber power : powers(shape)) {
            found += power.isZero() ? 1 : 0;
        }
        return found;
    }

    int side() {
        if (solved() == 0) {
            return -2;
        }
        ModelNumber[] powers = powers(shape);
        int found = -1;
        for (int k : shape.aside()) {
            if (found < 0 || powers[k].compare(powers[found]) > 0) {
                found = k;
            }
        }
        return found;
    }

    private static boolean bounded(Shape of, int above, int below) {
        ModelNumber[] powers = powers(of);
        for (int k : of.aside()) {
            if (powers[k].compare(by(above, below)) > 0) {
                return false;
            }
        }
        return true;
    }

    int bounded(int above, int below) {
        return solved() == 0 || !fraction(above, below) ? -2 : bounded(shape, above, below) ? 1 : 0;
    }

    int twins(int k) {
        if (!direction(k)) {
            return -2;
        }
        int bits = 0;
        for (int other = 0; other < 12; other++) {
            bits |= shape.twins(k, other) ? 1 << other : 0;
        }
        return bits;
    }

    int sets() {
        java.util.Set<Integer> found = new java.util.HashSet<>();
        for (int k = 0; k < 12; k++) {
            found.add(twins(k));
        }
        return found.size();
    }

    int without(int element, int what) {
        if (!has(element) || what < 0 || what > 1) {
            return -2;
        }
        Shape less = shape.withBroken(1 << element);
        return what == 1 ? less.rank() : less.weights() == null ? 0 : 1;
    }

    int spares() {
        int found = 0;
        for (int i : shape.working()) {
            found |= shape.withBroken(1 << i).weights() != null ? 1 << i : 0;
        }
        return found;
    }

    private int workingBits() {
        int bits = 0;
        for (int i : shape.working()) {
            bits |= 1 << i;
        }
        return bits;
    }

    int frail(int what) {
        if (what < 0 || what > 1) {
            return -2;
        }
        int found = -1;
        for (int set = 0; set < 32; set++) {
            if ((set & ~workingBits()) == 0 && shape.withBroken(set).weights() == null
                && (found < 0 || Integer.bitCount(set) < Integer.bitCount(found))) {
                found = set;
            }
        }
        return what == 0 ? Integer.bitCount(found) : found;
    }

    int fewest(int what) {
        if (what < 0 || what > 1) {
            return -2;
        }
        int found = -1;
        for (int set = 0; set < 32; set++) {
            if ((set & ~workingBits()) == 0 && shape.withBroken(31 & ~set).weights() != null
                && (found < 0 || Integer.bitCount(set) < Integer.bitCount(found))) {
                found = set;
            }
        }
        return found < 0 || what == 1 ? found : Integer.bitCount(found);
    }

    private ModelNumber leak(int element, int k) {
        ModelNumber[] weights = shape.weights();
        weights[element] = ModelNumber.ZERO;
        return shape.gain(weights, k).power();
    }

    long leak(int element, int k, int what) {
        return solved() == 0 || !has(element) || !direction(k) || what < 0 || what > 2 ? NO_SUCH
            : leak(element, k).toldReal(what);
    }

    int weakest() {
        if (solved() == 0) {
            return -2;
        }
        if (shape.deaf.isEmpty()) {
            return -1;
        }
        int found = -1;
        ModelNumber greatest = null;
        for (int i = 0; i < shape.positions.size(); i++) {
            ModelNumber most = ModelNumber.ZERO;
            for (int k : shape.deaf) {
                ModelNumber power = leak(i, k);
                most = power.compare(most) > 0 ? power : most;
            }
            if (found < 0 || most.compare(greatest) > 0) {
                found = i;
                greatest = most;
            }
        }
        return found;
    }

    /** CUT weights, as NUMBERS in STEPS. */
    private ModelNumber[] cuts(int q) {
        ModelNumber[] weights = shape.weights();
        for (int i = 0; i < weights.length; i++) {
            BigInteger[] whole = new BigInteger[4];
            for (int part = 0; part < 4; part++) {
                BigInteger two = BigInteger.TWO;
                BigInteger top = weights[i].parts[part].multiply(BigInteger.valueOf(2L * q)).add(weights[i].lower);
                BigInteger[] both = top.divideAndRemainder(weights[i].lower.multiply(two));
                whole[part] = both[1].signum() < 0 ? both[0].subtract(BigInteger.ONE) : both[0];
            }
            weights[i] = new ModelNumber(whole, BigInteger.ONE);
        }
        return weights;
    }

    long cut(int element, int what) {
        return solved() == 0 || !has(element) || what < 0 || what > 3 ? NO_SUCH : cuts(steps)[element].told(what);
    }

    long cutGain(int k, int what) {
        return solved() == 0 || !direction(k) || what < 0 || what > 3 ? NO_SUCH
            : shape.gain(cuts(steps), k).told(what);
    }

    long cutPower(int k, int what) {
        return solved() == 0 || !direction(k) || what < 0 || what > 1 ? NO_SUCH
            : shape.gain(cuts(steps), k).power().toldReal(what);
    }

    private ModelNumber error(int k) {
        return shape.gain(cuts(steps), k).times(by(1, steps)).minus(gain(k)).power();
    }

    long error(int k, int what) {
        return solved() == 0 || !direction(k) || what < 0 || what > 2 ? NO_SUCH : error(k).toldReal(what);
    }

    int farthest() {
        if (solved() == 0) {
            return -2;
        }
        int found = 0;
        for (int k = 1; k < 12; k++) {
            found = error(k).compare(error(found)) > 0 ? k : found;
        }
        return found;
    }

    int within(int k) {
        return solved() == 0 || !direction(k) ? -2
            : error(k).compare(by(2L * shape.working().size(), steps).power()) <= 0 ? 1 : 0;
    }

    int coarsest(int above, int below) {
        if (solved() == 0 || !fraction(above, below)) {
            return -2;
        }
        for (int q = 1; q <= 99; q++) {
            boolean all = true;
            ModelNumber[] cuts = cuts(q);
            for (int k : shape.deaf) {
                all &= shape.gain(cuts, k).times(by(1, q)).power().compare(by(above, below)) <= 0;
            }
            if (all) {
                return q;
            }
        }
        return -1;
    }

    private ModelNumber heardDeaf(ModelNumber[] cuts) {
        ModelNumber sum = ModelNumber.ZERO;
        for (int k : shape.deaf) {
            sum = sum.plus(shape.gain(cuts, k).power());
        }
        return sum;
    }

    /** ELEMENT, part and sign of the STEP, or null. */
    private int[] bestStep(ModelNumber[] cuts) {
        ModelNumber least = heardDeaf(cuts);
        int[] found = null;
        for (int i : shape.working()) {
            for (int part = 0; part < 4; part++) {
                for (int sign = 1; sign >= -1; sign -= 2) {
                    ModelNumber sum = heardDeaf(stepped(cuts, new int[] {i, part, sign}));
                    if (sum.compare(least) < 0) {
                        least = sum;
                        found = new int[] {i, part, sign};
                    }
                }
            }
        }
        return found;
    }

    private static ModelNumber[] stepped(ModelNumber[] cuts, int[] step) {
        ModelNumber[] made = cuts.clone();
        made[step[0]] = made[step[0]].plus(ModelNumber.root(step[1]).times(ModelNumber.whole(step[2])));
        return made;
    }

    int step(int what) {
        if (solved() == 0 || what < 0 || what > 2) {
            return -2;
        }
        int[] found = bestStep(cuts(steps));
        return found == null ? -1 : found[what];
    }

    int exactly() {
        if (solved() == 0) {
            return -2;
        }
        ModelNumber[] weights = shape.weights();
        for (int q = 1; q <= 99; q++) {
            ModelNumber[] cuts = cuts(q);
            boolean all = true;
            for (int i = 0; i < cuts.length; i++) {
                all &= cuts[i].times(by(1, q)).same(weights[i]);
            }
            if (all) {
                return q;
            }
        }
        return -1;
    }

    long polish(int n, int what) {
        if (solved() == 0 || n < 1 || n > 20 || what < 0 || what > 2) {
            return NO_SUCH;
        }
        ModelNumber[] cuts = cuts(steps);
        int done = 0;
        while (done < n) {
            int[] found = bestStep(cuts);
            if (found == null) {
                break;
            }
            cuts = stepped(cuts, found);
            done++;
        }
        return what == 0 ? done : heardDeaf(cuts).toldReal(what - 1);
    }

    int looks() {
        int bits = 0;
        for (int k = 0; k < 12; k++) {
            bits |= shape.lookingAt(k).weights() != null ? 1 << k : 0;
        }
        return bits;
    }

    int easiest() {
        int found = -1;
        for (int k = 11; k >= 0; k--) {
            if ((looks() >> k & 1) != 0
                && (found < 0 || shape.lookingAt(k).total().compare(shape.lookingAt(found).total()) <= 0)) {
                found = k;
            }
        }
        return found;
    }

    int deafer() {
        if (solved() == 0) {
            return -2;
        }
        int found = -1;
        for (int k = 11; k >= 0 && shape.deaf.size() < 4; k--) {
            if (!shape.wishes().contains(k) && shape.withDeaf(k).weights() != null
                && (found < 0 || shape.withDeaf(k).total().compare(shape.withDeaf(found).total()) <= 0)) {
                found = k;
            }
        }
        return found;
    }

    int sealed(int above, int below, int what) {
        if (solved() == 0 || !fraction(above, below) || what < 0 || what > 1) {
            return -2;
        }
        int found = -1;
        for (int set = 0; set < 4096; set++) {
            if (Integer.bitCount(set) + shape.deaf.size() <= 4
                && (found < 0 || Integer.bitCount(set) < Integer.bitCount(found))) {
                Shape more = shape;
                boolean fits = true;
                for (int k = 0; k < 12; k++) {
                    if ((set >> k & 1) != 0) {
                        fits &= !shape.wishes().contains(k);
                        more = more.withDeaf(k);
                    }
                }
                if (fits && more.weights() != null && bounded(more, above, below)) {
                    found = set;
                }
            }
        }
        return found < 0 || what == 1 ? found : Integer.bitCount(found);
    }

    int placed(int n, int what) {
        if (n < 1 || n > 5 || what < 0 || what > 1) {
            return -2;
        }
        int found = 0;
        int best = -1;
        ModelNumber least = null;
        for (int set = 0; set < 4096; set++) {
            if (Integer.bitCount(set) == n) {
                Shape other = new Shape();
                other.look = shape.look;
                other.deaf = shape.deaf;
                for (int p = 0; p < 12; p++) {
                    if ((set >> p & 1) != 0) {
                        other.positions.add(p);
                        other.broken.add(false);
                    }
                }
                ModelNumber total = other.total();
                if (total != null) {
                    found++;
                    if (least == null || total.compare(least) < 0) {
                        least = total;
                        best = set;
                    }
                }
            }
        }
        return what == 0 ? found : best;
    }

    int better(int element) {
        if (!has(element) || shape.broken.get(element)) {
            return -2;
        }
        int best = -1;
        ModelNumber least = null;
        for (int p = 0; p < 12; p++) {
            if (!shape.positions.contains(p) || shape.positions.get(element) == p) {
                Shape other = shape.copy();
                other.positions.set(element, p);
                ModelNumber total = other.total();
                if (total != null && (least == null || total.compare(least) < 0)) {
                    least = total;
                    best = p;
                }
            }
        }
        return best;
    }

    long both(int look, int p, int q, int k, int what) {
        if (solved() == 0 || !direction(look) || !direction(k) || Math.abs((long) p) > 9 || Math.abs((long) q) > 9
            || what < 0 || what > 4 || shape.lookingAt(look).weights() == null) {
            return NO_SUCH;
        }
        Shape other = shape.lookingAt(look);
        return gain(k).times(ModelNumber.whole(p))
            .plus(other.gain(other.weights(), k).times(ModelNumber.whole(q))).told(what);
    }

    int tell(int element) {
        if (solved() == 0 || !has(element)) {
            return -2;
        }
        ModelNumber weight = shape.weights()[element];
        String[] names = {"", "z", "zz", "zzz"};
        String told = "";
        for (int i = 0; i < 4; i++) {
            BigInteger part = weight.parts[i];
            if (part.signum() != 0) {
                String size = part.abs().toString();
                told += (part.signum() < 0 ? "-" : "+") + (i > 0 && size.equals("1") ? "" : size) + names[i];
            }
        }
        told = told.isEmpty() ? "0" : told.startsWith("+") ? told.substring(1) : told;
        out = weight.lower.equals(BigInteger.ONE) ? told : told + "/" + weight.lower;
        return out.length();
    }

    int octet(int i) {
        return i >= 0 && i < out.length() ? out.charAt(i) : -1;
    }

    int breaks(int element) {
        if (!has(element)) {
            return -2;
        }
        return shape.broken.set(element, true) ? -5 : shape.working().size();
    }

    int mends(int element) {
        if (!has(element)) {
            return -2;
        }
        return shape.broken.set(element, false) ? shape.working().size() : -5;
    }

    int moves(int element, int position) {
        if (!has(element) || !direction(position)) {
            return -2;
        }
        return shape.positions.contains(position) ? -5 : shape.positions.set(element, position);
    }

    int look(int k) {
        if (!direction(k) || lines == 0) {
            return -2;
        }
        int before = shape.look;
        shape = shape.lookingAt(k);
        return before == k ? -5 : before;
    }

    int deaf(int k) {
        if (!direction(k) || lines == 0) {
            return -2;
        }
        if (shape.wishes().contains(k) || shape.deaf.size() == 4) {
            return -5;
        }
        shape.deaf.add(k);
        return shape.deaf.size();
    }

    int hear(int k) {
        if (!direction(k) || lines == 0) {
            return -2;
        }
        return shape.deaf.remove((Integer) k) ? shape.deaf.size() : -5;
    }

    int steps(int told) {
        if (told < 1 || told > 99 || lines == 0) {
            return -2;
        }
        int before = steps;
        steps = told;
        return before;
    }
}
