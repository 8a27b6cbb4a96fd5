import java.util.Arrays;
import java.util.concurrent.atomic.AtomicInteger;
import java.util.stream.IntStream;

/**
 * Every array with a LOOK that there can be, but for BROKEN ELEMENTS, which are as not there, and for POSITIONS that
 * are others moved. Its answers are held against what the Terms say of them, in the field of a prime in which one has
 * twelfth roots: there nothing grows, so a number of the class that did not fit into a long would be seen.
 */
public final class EveryArrayTest {
    /** 12 goes into it less 1. */
    private static final long PRIME = 2_146_999_909L;
    private static final long[] ROOTS = roots();
    private static final long R = (ROOTS[1] + ROOTS[11]) % PRIME;

    private static final AtomicInteger TRIED = new AtomicInteger();
    private static final AtomicInteger WRONG = new AtomicInteger();

    private final DeafArray array = new DeafArray();
    private final String text;
    private final int[] positions;
    private final int[] wishes;

    private EveryArrayTest(int set, int look, int deafs) {
        positions = membersOf(set);
        wishes = new int[1 + Integer.bitCount(deafs)];
        wishes[0] = look;
        System.arraycopy(membersOf(deafs), 0, wishes, 1, wishes.length - 1);
        StringBuilder lines = new StringBuilder("array steps 1;");
        for (int position : positions) {
            lines.append("element ").append(position).append(';');
        }
        lines.append("look ").append(look).append(';');
        for (int i = 1; i < wishes.length; i++) {
            lines.append("deaf ").append(wishes[i]).append(';');
        }
        text = lines.toString();
    }

    public static void main(String[] args) {
        IntStream.range(1, 4096).parallel().filter(EveryArrayTest::isLeastOfMoved).forEach(set -> {
            for (int look = 0; look < 12; look++) {
                for (int deafs = 0; deafs < 4096; deafs++) {
                    if (Integer.bitCount(deafs) <= 4 && (deafs >> look & 1) == 0) {
                        new EveryArrayTest(set, look, deafs).run();
                    }
                }
            }
        });
        System.out.println(TRIED + " arrays, " + WRONG + " answers not as due");
        if (WRONG.get() != 0 || TRIED.get() == 0) {
            System.exit(1);
        }
    }

    private static boolean isLeastOfMoved(int set) {
        for (int by = 1; by < 12; by++) {
            if (((set << by | set >> 12 - by) & 4095) < set) {
                return false;
            }
        }
        return Integer.bitCount(set) <= 5;
    }

    private static int[] membersOf(int set) {
        return IntStream.range(0, 12).filter(one -> (set >> one & 1) != 0).toArray();
    }

    private void check(boolean holds, String what) {
        if (!holds && WRONG.incrementAndGet() <= 20) {
            System.out.println(text + " " + what);
        }
    }

    private void run() {
        TRIED.incrementAndGet();
        tell();
        int rank = rankOf(rows(0, wishes.length, 1));
        check(array.rank() == rank, "rank()");
        boolean holds = rank > rankOf(rows(1, wishes.length, 1));
        check(array.solved() == (holds ? 1 : 0), "solved()");
        checkLost();
        checkRoom(rank);
        if (holds) {
            checkWeights(rank);
        }
    }

    private void tell() {
        for (int at = 0; at < text.length(); at += 20) {
            array.feed(four(at), four(at + 4), four(at + 8), four(at + 12), four(at + 16));
        }
        array.end(text.length());
        check(array.array() == 1 + positions.length + wishes.length, "array()");
    }

    private int four(int at) {
        int bytes = 0;
        for (int i = at; i < at + 4; i++) {
            bytes = bytes << 8 | (i < text.length() ? text.charAt(i) : ' ');
        }
        return bytes;
    }

    /** ROWS of some WISHES; with -1 in place of 1 they are TURNED. */
    private long[][] rows(int from, int to, int turn) {
        long[][] rows = new long[to - from][positions.length];
        for (int i = from; i < to; i++) {
            for (int j = 0; j < positions.length; j++) {
                rows[i - from][j] = root(turn * wishes[i] * positions[j]);
            }
        }
        return rows;
    }

    private void checkLost() {
        for (int i = 0; i < wishes.length; i++) {
            boolean lost = rankOf(rows(0, i + 1, 1)) == rankOf(rows(0, i, 1));
            check(array.wish(i, 1) == (lost ? 1 : 0), "wish(" + i + ", 1)");
        }
    }

    private void checkRoom(int rank) {
        int[] kept = IntStream.range(0, wishes.length).filter(i -> array.wish(i, 1) == 0).toArray();
        long[][] form = new long[kept.length][kept.length];
        for (int i = 0; i < kept.length; i++) {
            for (int j = 0; j < kept.length; j++) {
                for (int position : positions) {
                    form[i][j] += root((wishes[kept[i]] - wishes[kept[j]]) * position);
                }
                form[i][j] %= PRIME;
            }
        }
        check(kept.length == rank && real(array.room(0), array.room(1), 1) == determinantOf(form), "room()");
    }

    /** TRUE WEIGHTS are those by which all WISHES are so and that are sums of ROWS TURNED. */
    private void checkWeights(int rank) {
        long[] weights = new long[positions.length];
        long total = 0;
        for (int i = 0; i < positions.length; i++) {
            int element = i;
            weights[i] = number(what -> array.weight(element, what), 1);
            total += weights[i] * number(what -> array.weight(element, what), -1) % PRIME;
        }
        check(real(array.total(0), array.total(1), array.total(2)) == total % PRIME, "total()");
        long[][] rows = rows(0, wishes.length, -1);
        long[][] more = Arrays.copyOf(rows, rows.length + 1);
        more[rows.length] = weights.clone();
        check(rankOf(more) == rank, "weight(): not the least TOTAL");
        checkGains(weights);
        checkShares(weights);
    }

    private void checkGains(long[] weights) {
        for (int direction = 0; direction < 12; direction++) {
            int one = direction;
            long due = 0;
            for (int i = 0; i < positions.length; i++) {
                due += weights[i] * root(direction * positions[i]) % PRIME;
            }
            long gain = number(what -> array.gain(one, what), 1);
            check(gain == due % PRIME, "gain(" + direction + ")");
            long power = gain * number(what -> array.gain(one, what), -1) % PRIME;
            long x = array.power(direction, 0);
            check(real(x, array.power(direction, 1), array.power(direction, 2)) == power, "power(" + direction + ")");
        }
        for (int i = 0; i < wishes.length; i++) {
            int one = wishes[i];
            check(number(what -> array.gain(one, what), 1) == (i == 0 ? 1 : 0), "a WISH that is not so, " + one);
        }
    }

    private void checkShares(long[] weights) {
        for (int i = 0; i < positions.length; i++) {
            long sum = 0;
            for (int j = 0; j < wishes.length; j++) {
                int wish = j;
                long share = number(what -> array.share(wish, what), 1);
                check(share == 0 || array.wish(j, 1) == 0, "share(" + j + ") of a LOST WISH");
                sum += share * root(-wishes[j] * positions[i]) % PRIME;
            }
            check(sum % PRIME == weights[i], "share()");
        }
    }

    // ---- the field ----

    /** A call's numbers by what. */
    private interface Told {
        long by(int what);
    }

    /** A NUMBER that a call tells as a, b, c, d and the lower number; with -1 in place of 1 it is TURNED. */
    private static long number(Told told, int turn) {
        long sum = 0;
        for (int what = 0; what < 4; what++) {
            sum += inField(told.by(what)) * root(turn * what) % PRIME;
        }
        return sum % PRIME * inverse(inField(told.by(4))) % PRIME;
    }

    private static long real(long x, long y, long lower) {
        return (inField(x) + inField(y) * R % PRIME) % PRIME * inverse(inField(lower)) % PRIME;
    }

    private static long inField(long number) {
        return Math.floorMod(number, PRIME);
    }

    private static long root(int power) {
        return ROOTS[Math.floorMod(power, 12)];
    }

    private static long power(long base, long exponent) {
        long result = 1;
        long square = base;
        for (long left = exponent; left > 0; left >>= 1) {
            if ((left & 1) != 0) {
                result = result * square % PRIME;
            }
            square = square * square % PRIME;
        }
        return result;
    }

    private static long inverse(long number) {
        return number == 1 ? 1 : power(number, PRIME - 2);
    }

    private static long[] roots() {
        for (long base = 2;; base++) {
            long z = power(base, (PRIME - 1) / 12);
            if ((power(z, 4) + 1) % PRIME == power(z, 2)) {
                long[] roots = new long[12];
                for (int i = 0; i < 12; i++) {
                    roots[i] = power(z, i);
                }
                return roots;
            }
        }
    }

    private static int rankOf(long[][] rows) {
        int rank = 0;
        for (int column = 0; rows.length > 0 && column < rows[0].length; column++) {
            if (bringUp(rows, rank, column)) {
                lowerBelow(rows, rank, column);
                rank++;
            }
        }
        return rank;
    }

    private static long determinantOf(long[][] form) {
        long product = 1;
        for (int i = 0; i < form.length; i++) {
            // what ROWS that are not LOST make has no determinant of 0 ahead, so no rows need to be changed about
            if (form[i][i] == 0) {
                return 0;
            }
            product = product * form[i][i] % PRIME;
            lowerBelow(form, i, i);
        }
        return product;
    }

    /** A row with something other than 0 in the column comes to the place, if there is one. */
    private static boolean bringUp(long[][] rows, int place, int column) {
        for (int i = place; i < rows.length; i++) {
            if (rows[i][column] != 0) {
                long[] row = rows[i];
                rows[i] = rows[place];
                rows[place] = row;
                return true;
            }
        }
        return false;
    }

    private static void lowerBelow(long[][] rows, int pivot, int column) {
        long inverse = inverse(rows[pivot][column]);
        for (int i = pivot + 1; i < rows.length; i++) {
            long factor = rows[i][column] * inverse % PRIME;
            for (int j = column; factor != 0 && j < rows[i].length; j++) {
                rows[i][j] = Math.floorMod(rows[i][j] - factor * rows[pivot][j] % PRIME, PRIME);
            }
        }
    }
}
