import java.math.BigInteger;

/** A NUMBER (a + b z + c z z + d z z z) / lower in lowest terms, without bounds: slow, plain, never changed. */
final class ModelNumber {
    private static final ModelNumber[] ROOTS = roots();
    static final ModelNumber ZERO = whole(0);
    static final ModelNumber ONE = whole(1);
    /** r is z and z to the 11 together. */
    static final ModelNumber R = root(1).plus(root(11));

    final BigInteger[] parts = new BigInteger[4];
    final BigInteger lower;

    ModelNumber(BigInteger[] tops, BigInteger below) {
        BigInteger common = below;
        for (BigInteger top : tops) {
            common = common.gcd(top);
        }
        if (below.signum() < 0) {
            common = common.negate();
        }
        for (int i = 0; i < 4; i++) {
            parts[i] = tops[i].divide(common);
        }
        lower = below.divide(common);
    }

    static ModelNumber of(long a, long b, long c, long d, long lower) {
        return new ModelNumber(new BigInteger[] {BigInteger.valueOf(a), BigInteger.valueOf(b), BigInteger.valueOf(c),
            BigInteger.valueOf(d)}, BigInteger.valueOf(lower));
    }

    static ModelNumber whole(long n) {
        return of(n, 0, 0, 0, 1);
    }

    static ModelNumber root(int power) {
        return ROOTS[Math.floorMod(power, 12)];
    }

    /** Powers of z, found by multiplying z with itself. */
    private static ModelNumber[] roots() {
        ModelNumber[] found = new ModelNumber[12];
        found[0] = of(1, 0, 0, 0, 1);
        for (int i = 1; i < 12; i++) {
            found[i] = found[i - 1].times(of(0, 1, 0, 0, 1));
        }
        return found;
    }

    ModelNumber plus(ModelNumber other) {
        BigInteger[] sums = new BigInteger[4];
        for (int i = 0; i < 4; i++) {
            sums[i] = parts[i].multiply(other.lower).add(other.parts[i].multiply(lower));
        }
        return new ModelNumber(sums, lower.multiply(other.lower));
    }

    ModelNumber minus(ModelNumber other) {
        return plus(other.times(whole(-1)));
    }

    ModelNumber times(ModelNumber other) {
        BigInteger[] wide = new BigInteger[7];
        java.util.Arrays.fill(wide, BigInteger.ZERO);
        for (int i = 0; i < 4; i++) {
            for (int j = 0; j < 4; j++) {
                wide[i + j] = wide[i + j].add(parts[i].multiply(other.parts[j]));
            }
        }
        for (int i = 6; i >= 4; i--) { // z to the 4 is z z less 1
            wide[i - 2] = wide[i - 2].add(wide[i]);
            wide[i - 4] = wide[i - 4].subtract(wide[i]);
        }
        return new ModelNumber(new BigInteger[] {wide[0], wide[1], wide[2], wide[3]}, lower.multiply(other.lower));
    }

    ModelNumber turned() {
        return swapped(11);
    }

    boolean isZero() {
        return parts[0].signum() == 0 && parts[1].signum() == 0 && parts[2].signum() == 0 && parts[3].signum() == 0;
    }

    /** Its POWER, still as a NUMBER. */
    ModelNumber power() {
        return times(turned());
    }

    /** 1 by it, by the two other roots that z could be beside its TURNED one. */
    ModelNumber inverse() {
        ModelNumber others = swapped(5).times(swapped(7)).times(swapped(11));
        ModelNumber norm = times(others);
        if (norm.parts[1].signum() != 0 || norm.parts[2].signum() != 0 || norm.parts[3].signum() != 0) {
            throw new IllegalStateException("a norm is a fraction");
        }
        return others.times(new ModelNumber(new BigInteger[] {norm.lower, BigInteger.ZERO, BigInteger.ZERO,
            BigInteger.ZERO}, norm.parts[0]));
    }

    /** With z to a power in place of z. */
    private ModelNumber swapped(int power) {
        BigInteger[] sums = {BigInteger.ZERO, BigInteger.ZERO, BigInteger.ZERO, BigInteger.ZERO};
        for (int i = 0; i < 4; i++) {
            for (int j = 0; j < 4; j++) {
                sums[j] = sums[j].add(parts[i].multiply(root(power * i).parts[j]));
            }
        }
        return new ModelNumber(sums, lower);
    }

    /** y of one that is x + y r, by the same lower number: r is 2 z - z z z. */
    BigInteger realY() {
        if (parts[2].signum() != 0 || !parts[1].equals(parts[3].multiply(BigInteger.valueOf(-2)))) {
            throw new IllegalStateException("it is not x + y r");
        }
        return parts[3].negate();
    }

    /** The sign of one that is x + y r, by squares. */
    int sign() {
        BigInteger x = parts[0];
        BigInteger y = realY();
        if (x.signum() * y.signum() >= 0) {
            return x.signum() == 0 ? y.signum() : x.signum();
        }
        return x.signum() * x.multiply(x).compareTo(y.multiply(y).multiply(BigInteger.valueOf(3)));
    }

    int compare(ModelNumber other) {
        return Integer.signum(minus(other).sign());
    }

    boolean same(ModelNumber other) {
        return minus(other).isZero();
    }

    /** Of the NUMBER: a .. d, the lower number. */
    long told(int what) {
        return (what == 4 ? lower : parts[what]).longValueExact();
    }

    /** Of one that is x + y r: x, y, the lower number. */
    long toldReal(int what) {
        BigInteger y = realY();
        BigInteger common = parts[0].gcd(y).gcd(lower);
        BigInteger[] three = {parts[0], y, lower};
        return three[what].divide(common).longValueExact();
    }
}
