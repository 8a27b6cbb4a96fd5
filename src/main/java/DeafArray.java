/**
 * An array of ears in a row, steered by whole roots. The numbered promises and the words in capitals are those of the
 * document (DOC.md). Every row that a call needs is made once, by the constructor, and used again: no call makes an
 * object.
 */
public final class DeafArray {
    public static final int NONE = -1;
    public static final long NO_SUCH = Long.MIN_VALUE;

    private static final int DIRECTIONS = 12;
    private static final int ALL_DIRECTIONS = 4095;
    private static final int POSITIONS = 12;
    private static final int ALL_POSITIONS = 4095;
    private static final int MOST_ELEMENTS = 5;
    private static final int ALL_ELEMENTS = 31;
    private static final int MOST_DEAF = 4;
    private static final int MOST_WISHES = 5;
    private static final int MOST_STEPS = 99;
    private static final int MOST_ABOVE = 99;
    private static final int MOST_POLISH = 20;
    private static final int MOST_FACTOR = 9;
    private static final int MOST_TAPE = 300;
    private static final int MOST_OUT = 160;
    private static final int PARTS = 4;

    private static final int NOT_THERE = -2;
    private static final int FAULTY = -4;
    private static final int SO_ALREADY = -5;
    private static final int NO_LIKENESS = -1000;

    private final Reader reader;
    private final Solver now;
    private final Solver trial;
    private final Cutter cutter;
    private final Least least;
    private final Greatest greatest;
    private final Out out;
    private final Num probe;
    private final long[] parts;
    private boolean stale;

    /** Promise 1. */
    public DeafArray() {
        reader = new Reader();
        now = new Solver();
        trial = new Solver();
        cutter = new Cutter();
        least = new Least();
        greatest = new Greatest();
        out = new Out();
        probe = new Num();
        parts = new long[PARTS + 1];
        stale = true;
    }

    // ---- the TAPE and the ARRAY: promises 2 to 9 ----

    /** Promise 2. */
    public int feed(int a, int b, int c, int d, int e) {
        if (reader.size + 20 > MOST_TAPE) {
            return NONE;
        }
        reader.take(a);
        reader.take(b);
        reader.take(c);
        reader.take(d);
        reader.take(e);
        return reader.size;
    }

    /** Promise 3. */
    public int end(int n) {
        if (n < 0 || n > reader.size) {
            return NONE;
        }
        reader.size = n;
        return n;
    }

    /** Promise 4. */
    public int array() {
        reader.readText();
        reader.size = 0;
        if (reader.fault != 0) {
            return FAULTY;
        }
        now.plan.copy(reader.draft);
        stale = true;
        return now.plan.lines;
    }

    /** Promise 5. */
    public int fault(int what) {
        if (what == 0) {
            return reader.fault;
        }
        return what == 1 ? reader.place : NONE;
    }

    /** Promise 6. */
    public int count(int what) {
        Plan plan = now.plan;
        switch (what) {
            case 0:
                return plan.size;
            case 1:
                return plan.working();
            case 2:
                return plan.steps;
            case 3:
                return plan.look;
            case 4:
                return plan.deafBits();
            case 5:
                return plan.wishCount();
            case 6:
                return plan.lines;
            case 7:
                return reader.size;
            case 8:
                return out.size;
            default:
                return NONE;
        }
    }

    /** Promise 7. */
    public int element(int element, int what) {
        if (!now.plan.has(element) || !isAmong(what, 2)) {
            return NOT_THERE;
        }
        if (what == 0) {
            return now.plan.positions[element];
        }
        return now.plan.works(element) ? 0 : 1;
    }

    /** Promise 8. */
    public int hears(int element, int direction) {
        if (!now.plan.has(element) || !isDirection(direction)) {
            return NOT_THERE;
        }
        return direction * now.plan.positions[element] % 12;
    }

    /** Promise 9. */
    public int wish(int i, int what) {
        refresh();
        if (!isAmong(i, now.wishes) || !isAmong(what, 2)) {
            return NOT_THERE;
        }
        if (what == 0) {
            return now.wished[i];
        }
        return now.lost[i] ? 1 : 0;
    }

    // ---- TRUE WEIGHTS, GAINS and POWERS: promises 10 to 26 ----

    /** Promise 10. */
    public int rank() {
        refresh();
        return now.rank;
    }

    /** Promise 11. */
    public int solved() {
        refresh();
        return now.holds ? 1 : 0;
    }

    /** Promise 12. */
    public long weight(int element, int what) {
        refresh();
        if (!now.holds || !now.plan.has(element)) {
            return NO_SUCH;
        }
        return partOf(now.weights[element], now.lower, what);
    }

    /** Promise 13. */
    public long gain(int direction, int what) {
        refresh();
        if (!now.holds || !isDirection(direction)) {
            return NO_SUCH;
        }
        return partOf(now.gains[direction], now.lower, what);
    }

    /** Promise 14. */
    public long power(int direction, int what) {
        refresh();
        if (!now.holds || !isDirection(direction)) {
            return NO_SUCH;
        }
        return realPart(now.powerX[direction], now.powerY[direction], now.lower * now.lower, what);
    }

    /** Promise 15. */
    public long total(int what) {
        refresh();
        if (!now.holds) {
            return NO_SUCH;
        }
        return realPart(now.totalX(), now.totalY(), now.lower, what);
    }

    /** Promise 16. */
    public int louder(int direction, int other) {
        refresh();
        if (!now.holds || !isDirection(direction) || !isDirection(other)) {
            return NOT_THERE;
        }
        return now.comparePowers(direction, other);
    }

    /** Promise 17. */
    public int loud(int i) {
        refresh();
        if (!now.holds || !isDirection(i)) {
            return NOT_THERE;
        }
        for (int direction = 0; direction < DIRECTIONS; direction++) {
            if (now.placeByPower(direction) == i) {
                return direction;
            }
        }
        return NOT_THERE;
    }

    /** Promise 18. */
    public int hush(int above, int below, int what) {
        refresh();
        if (!now.holds || !isFraction(above, below) || !isAmong(what, 2)) {
            return NOT_THERE;
        }
        int hushed = 0;
        for (int direction = 0; direction < DIRECTIONS; direction++) {
            if (now.comparePowerTo(direction, above, below) <= 0) {
                hushed |= 1 << direction;
            }
        }
        int most = 0;
        int first = NONE;
        for (int direction = 0; direction < DIRECTIONS; direction++) {
            int length = rowFrom(hushed, direction, 1);
            if (length > most) {
                most = length;
                first = direction;
            }
        }
        return what == 0 ? most : first;
    }

    /** Promise 19. */
    public int beam(int above, int below) {
        refresh();
        if (!now.holds || !isFraction(above, below)) {
            return NOT_THERE;
        }
        int heard = 0;
        for (int direction = 0; direction < DIRECTIONS; direction++) {
            if (now.comparePowerTo(direction, above, below) >= 0) {
                heard |= 1 << direction;
            }
        }
        int ahead = rowFrom(heard, now.plan.look, 1);
        int behind = rowFrom(heard, now.plan.look, DIRECTIONS - 1);
        // the LOOK itself stands in both rows
        return ahead == 0 ? 0 : Math.min(DIRECTIONS, ahead + behind - 1);
    }

    /** Promise 20. */
    public long share(int i, int what) {
        refresh();
        if (!now.holds || !isAmong(i, now.wishes)) {
            return NO_SUCH;
        }
        return partOf(now.shares[i], now.lower, what);
    }

    /** Promise 21. */
    public long room(int what) {
        refresh();
        if (what == 0) {
            return now.roomX;
        }
        return what == 1 ? now.roomY : NO_SUCH;
    }

    /** Promise 22. */
    public int likeness(int direction, int other, int what) {
        if (!isDirection(direction) || !isDirection(other) || !isAmong(what, 2)) {
            return NO_LIKENESS;
        }
        now.plan.meet(direction, other, probe);
        return (int) (what == 0 ? probe.powerX() : probe.powerY());
    }

    /** Promise 23. */
    public int nearest(int direction) {
        if (!isDirection(direction)) {
            return NOT_THERE;
        }
        int twins = now.plan.twinBits(direction);
        greatest.clear();
        for (int other = 0; other < DIRECTIONS; other++) {
            if ((twins >> other & 1) == 0) {
                now.plan.meet(direction, other, probe);
                greatest.offer(probe, other);
            }
        }
        return greatest.found;
    }

    /** Promise 24. */
    public int quiet() {
        refresh();
        if (!now.holds) {
            return NOT_THERE;
        }
        int found = 0;
        for (int direction = 0; direction < DIRECTIONS; direction++) {
            if (now.gains[direction].isZero()) {
                found++;
            }
        }
        return found;
    }

    /** Promise 25. */
    public int side() {
        refresh();
        if (!now.holds) {
            return NOT_THERE;
        }
        int aside = now.plan.asideBits();
        greatest.clear();
        for (int direction = 0; direction < DIRECTIONS; direction++) {
            if ((aside >> direction & 1) != 0) {
                greatest.offer(now.gains[direction], direction);
            }
        }
        return greatest.found;
    }

    /** Promise 26. */
    public int bounded(int above, int below) {
        refresh();
        if (!now.holds || !isFraction(above, below)) {
            return NOT_THERE;
        }
        return now.asideAtMost(above, below) ? 1 : 0;
    }

    // ---- TWINS, and ELEMENTS that break: promises 27 to 34 ----

    /** Promise 27. */
    public int twins(int direction) {
        return isDirection(direction) ? now.plan.twinBits(direction) : NOT_THERE;
    }

    /** Promise 28. */
    public int sets() {
        int found = 0;
        for (int direction = 0; direction < DIRECTIONS; direction++) {
            // a set is counted at its least DIRECTION
            if ((now.plan.twinBits(direction) & ((1 << direction) - 1)) == 0) {
                found++;
            }
        }
        return found;
    }

    /** Promise 29. */
    public int without(int element, int what) {
        if (!now.plan.has(element) || !isAmong(what, 2)) {
            return NOT_THERE;
        }
        boolean holds = holdsBroken(now.plan.broken | 1 << element);
        if (what == 1) {
            return trial.rank;
        }
        return holds ? 1 : 0;
    }

    /** Promise 30. */
    public int spares() {
        int found = 0;
        for (int element = 0; element < now.plan.size; element++) {
            if (now.plan.works(element) && holdsBroken(now.plan.broken | 1 << element)) {
                found |= 1 << element;
            }
        }
        return found;
    }

    /** Promise 31. */
    public int frail(int what) {
        if (!isAmong(what, 2)) {
            return NOT_THERE;
        }
        int set = leastSet(false);
        return what == 0 ? Integer.bitCount(set) : set;
    }

    /** Promise 32. */
    public int fewest(int what) {
        if (!isAmong(what, 2)) {
            return NOT_THERE;
        }
        int set = leastSet(true);
        return what == 1 || set == NONE ? set : Integer.bitCount(set);
    }

    /** Promise 33. */
    public long leak(int element, int direction, int what) {
        refresh();
        if (!now.holds || !now.plan.has(element) || !isDirection(direction)) {
            return NO_SUCH;
        }
        // behind six further turns z is its own opposite: the ELEMENT's part is taken away
        probe.copy(now.gains[direction]);
        probe.addTurned(now.weights[element], direction * now.plan.positions[element] + 6);
        return realPart(probe.powerX(), probe.powerY(), now.lower * now.lower, what);
    }

    /** Promise 34. */
    public int weakest() {
        refresh();
        if (!now.holds) {
            return NOT_THERE;
        }
        if (now.plan.deafCount == 0) {
            return NONE;
        }
        // a DEAF one's GAIN is 0, so without an ELEMENT it has the POWER of that ELEMENT's WEIGHT
        greatest.clear();
        for (int element = 0; element < now.plan.size; element++) {
            greatest.offer(now.weights[element], element);
        }
        return greatest.found;
    }

    // ---- weights that are CUT: promises 35 to 44 ----

    /** Promise 35. */
    public long cut(int element, int what) {
        refresh();
        if (!now.holds || !now.plan.has(element) || !isAmong(what, PARTS)) {
            return NO_SUCH;
        }
        cutter.roundAll(now, now.plan.steps);
        return cutter.cuts[element].part(what);
    }

    /** Promise 36. */
    public long cutGain(int direction, int what) {
        refresh();
        if (!now.holds || !isDirection(direction) || !isAmong(what, PARTS)) {
            return NO_SUCH;
        }
        cutter.roundAll(now, now.plan.steps);
        now.plan.hearBy(cutter.cuts, direction, probe);
        return probe.part(what);
    }

    /** Promise 37. */
    public long cutPower(int direction, int what) {
        refresh();
        if (!now.holds || !isDirection(direction) || !isAmong(what, 2)) {
            return NO_SUCH;
        }
        cutter.roundAll(now, now.plan.steps);
        now.plan.hearBy(cutter.cuts, direction, probe);
        return what == 0 ? probe.powerX() : probe.powerY();
    }

    /** Promise 38. */
    public long error(int direction, int what) {
        refresh();
        if (!now.holds || !isDirection(direction)) {
            return NO_SUCH;
        }
        cutter.roundAll(now, now.plan.steps);
        cutter.missAt(now, direction, probe);
        long lower = now.lower * now.plan.steps;
        return realPart(probe.powerX(), probe.powerY(), lower * lower, what);
    }

    /** Promise 39. */
    public int farthest() {
        refresh();
        if (!now.holds) {
            return NOT_THERE;
        }
        cutter.roundAll(now, now.plan.steps);
        greatest.clear();
        for (int direction = 0; direction < DIRECTIONS; direction++) {
            cutter.missAt(now, direction, probe);
            greatest.offer(probe, direction);
        }
        return greatest.found;
    }

    /** Promise 40. */
    public int within(int direction) {
        refresh();
        if (!now.holds || !isDirection(direction)) {
            return NOT_THERE;
        }
        cutter.roundAll(now, now.plan.steps);
        cutter.missAt(now, direction, probe);
        // both have STEPS below, so they are left out
        long bound = 2 * now.plan.working() * now.lower;
        return signOf(probe.powerX() - bound * bound, probe.powerY()) <= 0 ? 1 : 0;
    }

    /** Promise 41. */
    public int coarsest(int above, int below) {
        refresh();
        if (!now.holds || !isFraction(above, below)) {
            return NOT_THERE;
        }
        for (int steps = 1; steps <= MOST_STEPS; steps++) {
            cutter.roundAll(now, steps);
            if (cutter.deafAtMost(now, steps, above, below)) {
                return steps;
            }
        }
        return NONE;
    }

    /** Promise 42. */
    public int step(int what) {
        refresh();
        if (!now.holds || !isAmong(what, 3)) {
            return NOT_THERE;
        }
        cutter.roundAll(now, now.plan.steps);
        cutter.hearDeaf(now);
        if (!cutter.seekStep(now.plan)) {
            return NONE;
        }
        if (what == 0) {
            return cutter.stepElement;
        }
        return what == 1 ? cutter.stepPart : cutter.stepSign;
    }

    /** Promise 43. */
    public int exactly() {
        refresh();
        if (!now.holds) {
            return NOT_THERE;
        }
        for (int steps = 1; steps <= MOST_STEPS; steps++) {
            if (cutter.losesNothing(now, steps)) {
                return steps;
            }
        }
        return NONE;
    }

    /** Promise 44. */
    public long polish(int n, int what) {
        refresh();
        if (!now.holds || n < 1 || n > MOST_POLISH || !isAmong(what, 3)) {
            return NO_SUCH;
        }
        cutter.roundAll(now, now.plan.steps);
        cutter.hearDeaf(now);
        int done = 0;
        while (done < n && cutter.seekStep(now.plan)) {
            cutter.takeStep(now.plan);
            done++;
        }
        if (what == 0) {
            return done;
        }
        return what == 1 ? cutter.sumX : cutter.sumY;
    }

    // ---- other LOOKS, other DEAF ones, other POSITIONS: promises 45 to 51 ----

    /** Promise 45. */
    public int looks() {
        int found = 0;
        for (int direction = 0; direction < DIRECTIONS; direction++) {
            if (holdsLooking(direction)) {
                found |= 1 << direction;
            }
        }
        return found;
    }

    /** Promise 46. */
    public int easiest() {
        least.clear();
        for (int direction = 0; direction < DIRECTIONS; direction++) {
            if (holdsLooking(direction)) {
                least.offer(trial, direction);
            }
        }
        return least.found;
    }

    /** Promise 47. */
    public int deafer() {
        refresh();
        if (!now.holds) {
            return NOT_THERE;
        }
        least.clear();
        if (now.plan.deafCount == MOST_DEAF) {
            return NONE;
        }
        int wishes = now.plan.wishBits();
        for (int direction = 0; direction < DIRECTIONS; direction++) {
            if ((wishes >> direction & 1) == 0 && holdsDeafTo(1 << direction)) {
                least.offer(trial, direction);
            }
        }
        return least.found;
    }

    /** Promise 48. */
    public int sealed(int above, int below, int what) {
        refresh();
        if (!now.holds || !isFraction(above, below) || !isAmong(what, 2)) {
            return NOT_THERE;
        }
        int set = leastSeal(above, below);
        return what == 1 || set == NONE ? set : Integer.bitCount(set);
    }

    /** Promise 49. */
    public int placed(int n, int what) {
        if (n < 1 || n > MOST_ELEMENTS || !isAmong(what, 2)) {
            return NOT_THERE;
        }
        int found = 0;
        least.clear();
        trial.plan.copy(now.plan);
        for (int set = 0; set <= ALL_POSITIONS; set++) {
            // ELEMENTS that all move by the same hear each DIRECTION by one further root: TOTAL stays, so the least of
            // the sets that are one another moved tells of all
            int alike = Integer.bitCount(set) == n ? movedSets(set) : 0;
            if (alike > 0) {
                trial.plan.standAt(set);
                trial.solve();
                if (trial.holds) {
                    found += alike;
                    least.offer(trial, set);
                }
            }
        }
        return what == 0 ? found : least.found;
    }

    /** Promise 50. */
    public int better(int element) {
        if (!now.plan.has(element) || !now.plan.works(element)) {
            return NOT_THERE;
        }
        least.clear();
        trial.plan.copy(now.plan);
        for (int position = 0; position < POSITIONS; position++) {
            int there = now.plan.elementAt(position);
            if (there == NONE || there == element) {
                trial.plan.positions[element] = position;
                trial.solve();
                if (trial.holds) {
                    least.offer(trial, position);
                }
            }
        }
        return least.found;
    }

    /** Promise 51. */
    public long both(int look, int p, int q, int direction, int what) {
        refresh();
        if (!now.holds || !isDirection(look) || !isDirection(direction) || !isFactor(p) || !isFactor(q)) {
            return NO_SUCH;
        }
        if (!holdsLooking(look)) {
            return NO_SUCH;
        }
        trial.plan.hearBy(trial.weights, direction, probe);
        probe.scale(q * now.lower);
        probe.addScaled(now.gains[direction], p * trial.lower);
        return partOf(probe, now.lower * trial.lower, what);
    }

    // ---- OUT: promises 52 and 53 ----

    /** Promise 52. */
    public int tell(int element) {
        refresh();
        if (!now.holds || !now.plan.has(element)) {
            return NOT_THERE;
        }
        bringToLowest(now.weights[element], now.lower);
        out.writeFraction(parts);
        return out.size;
    }

    /** Promise 53. */
    public int octet(int i) {
        return isAmong(i, out.size) ? out.bytes[i] : NONE;
    }

    // ---- changes: promises 54 to 60 ----

    /** Promise 54. */
    public int breaks(int element) {
        if (!now.plan.has(element)) {
            return NOT_THERE;
        }
        if (!now.plan.works(element)) {
            return SO_ALREADY;
        }
        now.plan.broken |= 1 << element;
        stale = true;
        return now.plan.working();
    }

    /** Promise 55. */
    public int mends(int element) {
        if (!now.plan.has(element)) {
            return NOT_THERE;
        }
        if (now.plan.works(element)) {
            return SO_ALREADY;
        }
        now.plan.broken &= ~(1 << element);
        stale = true;
        return now.plan.working();
    }

    /** Promise 56. */
    public int moves(int element, int position) {
        if (!now.plan.has(element) || !isAmong(position, POSITIONS)) {
            return NOT_THERE;
        }
        if (now.plan.elementAt(position) != NONE) {
            return SO_ALREADY;
        }
        int before = now.plan.positions[element];
        now.plan.positions[element] = position;
        stale = true;
        return before;
    }

    /** Promise 57. */
    public int look(int direction) {
        if (!isDirection(direction) || now.plan.isNone()) {
            return NOT_THERE;
        }
        if (now.plan.look == direction) {
            return SO_ALREADY;
        }
        int before = now.plan.look;
        now.plan.turnTo(direction);
        stale = true;
        return before;
    }

    /** Promise 58. */
    public int deaf(int direction) {
        if (!isDirection(direction) || now.plan.isNone()) {
            return NOT_THERE;
        }
        if ((now.plan.wishBits() >> direction & 1) != 0 || now.plan.deafCount == MOST_DEAF) {
            return SO_ALREADY;
        }
        now.plan.addDeaf(direction);
        stale = true;
        return now.plan.deafCount;
    }

    /** Promise 59. */
    public int hear(int direction) {
        if (!isDirection(direction) || now.plan.isNone()) {
            return NOT_THERE;
        }
        if ((now.plan.deafBits() >> direction & 1) == 0) {
            return SO_ALREADY;
        }
        now.plan.dropDeaf(direction);
        stale = true;
        return now.plan.deafCount;
    }

    /** Promise 60. */
    public int steps(int steps) {
        if (steps < 1 || steps > MOST_STEPS || now.plan.isNone()) {
            return NOT_THERE;
        }
        // TRUE WEIGHTS do not hang on STEPS, so nothing is stale
        int before = now.plan.steps;
        now.plan.steps = steps;
        return before;
    }

    // ---- what several promises need ----

    private void refresh() {
        if (stale) {
            now.solve();
            if (now.holds) {
                now.listen();
            }
            stale = false;
        }
    }

    private boolean holdsBroken(int broken) {
        trial.plan.copy(now.plan);
        trial.plan.broken = broken;
        trial.solve();
        return trial.holds;
    }

    private boolean holdsLooking(int direction) {
        trial.plan.copy(now.plan);
        trial.plan.turnTo(direction);
        trial.solve();
        return trial.holds;
    }

    private boolean holdsDeafTo(int directions) {
        trial.plan.copy(now.plan);
        for (int direction = 0; direction < DIRECTIONS; direction++) {
            if ((directions >> direction & 1) != 0) {
                trial.plan.addDeaf(direction);
            }
        }
        trial.solve();
        return trial.holds;
    }

    /** The fewest working ELEMENTS that alone are enough (kept), or that must break so that it is over. */
    private int leastSet(boolean kept) {
        int working = now.plan.workingBits();
        for (int size = 0; size <= MOST_ELEMENTS; size++) {
            for (int set = 0; set <= ALL_ELEMENTS; set++) {
                if (Integer.bitCount(set) == size && (set & ~working) == 0) {
                    int broken = kept ? ALL_ELEMENTS & ~set : now.plan.broken | set;
                    if (holdsBroken(broken) == kept) {
                        return set;
                    }
                }
            }
        }
        return NONE;
    }

    private int leastSeal(int above, int below) {
        int wishes = now.plan.wishBits();
        for (int size = 0; size <= MOST_DEAF - now.plan.deafCount; size++) {
            for (int set = 0; set <= ALL_DIRECTIONS; set++) {
                if (Integer.bitCount(set) == size && (set & wishes) == 0 && holdsDeafTo(set)
                        && trial.asideAtMost(above, below)) {
                    return set;
                }
            }
        }
        return NONE;
    }

    private long partOf(Num top, long lower, int what) {
        if (!isAmong(what, PARTS + 1)) {
            return NO_SUCH;
        }
        bringToLowest(top, lower);
        return parts[what];
    }

    private void bringToLowest(Num top, long lower) {
        long common = lower;
        for (int i = 0; i < PARTS; i++) {
            parts[i] = top.part(i);
            common = commonDivisor(common, parts[i]);
        }
        parts[PARTS] = lower;
        for (int i = 0; i <= PARTS && common != 0; i++) {
            parts[i] /= common;
        }
    }

    private static long realPart(long x, long y, long lower, int what) {
        long common = commonDivisor(commonDivisor(lower, x), y);
        if (common == 0 || !isAmong(what, 3)) {
            return NO_SUCH;
        }
        if (what == 0) {
            return x / common;
        }
        return (what == 1 ? y : lower) / common;
    }

    private static boolean isDirection(int direction) {
        return isAmong(direction, DIRECTIONS);
    }

    /** From 0 on there are so many. */
    private static boolean isAmong(int i, int count) {
        return i >= 0 && i < count;
    }

    private static boolean isFraction(int above, int below) {
        return above >= 0 && above <= MOST_ABOVE && below >= 1 && below <= MOST_ABOVE;
    }

    private static boolean isFactor(int factor) {
        return factor >= -MOST_FACTOR && factor <= MOST_FACTOR;
    }

    /** How many DIRECTIONS of the set stand in a row from one on, each by so much behind the one ahead. */
    private static int rowFrom(int set, int direction, int stride) {
        int length = 0;
        int at = direction;
        while (length < DIRECTIONS && (set >> at & 1) != 0) {
            length++;
            at = (at + stride) % DIRECTIONS;
        }
        return length;
    }

    /** How many sets of POSITIONS are a set moved, it, too; 0 if it is not the least of them. */
    private static int movedSets(int set) {
        for (int by = 1; by < POSITIONS; by++) {
            int moved = (set << by | set >> (POSITIONS - by)) & ALL_POSITIONS;
            if (moved < set) {
                return 0;
            }
            if (moved == set) {
                return by;
            }
        }
        return POSITIONS;
    }

    /** Above 0; 0 if both are. */
    private static long commonDivisor(long one, long other) {
        long p = Math.abs(one);
        long q = Math.abs(other);
        // each two rounds halve the numbers, so 130 are enough for any two longs
        for (int i = 0; i < 130 && q != 0; i++) {
            long rest = p % q;
            p = q;
            q = rest;
        }
        return p;
    }

    /**
     * The sign of x + y r, exactly. Squares would not fit into a long: instead, as long as p / q is between 1 and 2,
     * p - q r is made smaller by (3 q - p) - (p - q) r, which is it times -(1 + r) and so has the other sign.
     */
    private static int signOf(long x, long y) {
        if (x == 0 && y == 0) {
            return 0;
        }
        if (x >= 0 && y >= 0) {
            return 1;
        }
        if (x <= 0 && y <= 0) {
            return -1;
        }
        int sign = x > 0 ? 1 : -1;
        long p = Math.abs(x);
        long q = Math.abs(y);
        // q falls below three quarters in each round, so 200 are enough for any long
        for (int i = 0; i < 200; i++) {
            if (p >= 2 * q) {
                return sign;
            }
            if (p <= q) {
                return -sign;
            }
            long rest = p - q;
            p = 2 * q - rest;
            q = rest;
            sign = -sign;
        }
        return sign;
    }

    /** A NUMBER a + b z + c z z + d z z z of whole parts, changed in place. */
    private static final class Num {
        private long a;
        private long b;
        private long c;
        private long d;

        void clear() {
            a = 0;
            b = 0;
            c = 0;
            d = 0;
        }

        void copy(Num n) {
            a = n.a;
            b = n.b;
            c = n.c;
            d = n.d;
        }

        boolean isZero() {
            return a == 0 && b == 0 && c == 0 && d == 0;
        }

        long part(int what) {
            switch (what) {
                case 0:
                    return a;
                case 1:
                    return b;
                case 2:
                    return c;
                default:
                    return d;
            }
        }

        void setParts(long first, long second, long third, long fourth) {
            a = first;
            b = second;
            c = third;
            d = fourth;
        }

        void takeAway(Num n) {
            a -= n.a;
            b -= n.b;
            c -= n.c;
            d -= n.d;
        }

        void scale(long factor) {
            a *= factor;
            b *= factor;
            c *= factor;
            d *= factor;
        }

        void addScaled(Num n, long factor) {
            a += n.a * factor;
            b += n.b * factor;
            c += n.c * factor;
            d += n.d * factor;
        }

        /** z to a power (0 or more) is added. */
        void addRoot(int power) {
            // z to the 6 is -1
            int sign = power % 12 < 6 ? 1 : -1;
            switch (power % 6) {
                case 0:
                    a += sign;
                    break;
                case 1:
                    b += sign;
                    break;
                case 2:
                    c += sign;
                    break;
                case 3:
                    d += sign;
                    break;
                case 4:
                    a -= sign;
                    c += sign;
                    break;
                default:
                    b -= sign;
                    d += sign;
                    break;
            }
        }

        /** A NUMBER times z to a power (0 or more) is added. */
        void addTurned(Num n, int power) {
            int sign = power % 12 < 6 ? 1 : -1;
            long e = sign * n.a;
            long f = sign * n.b;
            long g = sign * n.c;
            long h = sign * n.d;
            switch (power % 6) {
                case 0:
                    a += e;
                    b += f;
                    c += g;
                    d += h;
                    break;
                case 1:
                    a -= h;
                    b += e;
                    c += f + h;
                    d += g;
                    break;
                case 2:
                    a -= g;
                    b -= h;
                    c += e + g;
                    d += f + h;
                    break;
                case 3:
                    a -= f + h;
                    b -= g;
                    c += f;
                    d += e + g;
                    break;
                case 4:
                    a -= e + g;
                    b -= f + h;
                    c += e;
                    d += f;
                    break;
                default:
                    a -= f;
                    b -= e + g;
                    c -= h;
                    d += e;
                    break;
            }
        }

        /** It is another one TURNED. */
        void mirror(Num n) {
            a = n.a + n.c;
            b = n.b;
            c = -n.c;
            d = -n.b - n.d;
        }

        /** It is the product of two others. */
        void multiply(Num n, Num m) {
            long fourth = n.b * m.d + n.c * m.c + n.d * m.b;
            long fifth = n.c * m.d + n.d * m.c;
            // z to the 4 is z z - 1, to the 5 z z z - z, to the 6 -1
            a = n.a * m.a - fourth - n.d * m.d;
            b = n.a * m.b + n.b * m.a - fifth;
            c = n.a * m.c + n.b * m.b + n.c * m.a + fourth;
            d = n.a * m.d + n.b * m.c + n.c * m.b + n.d * m.a + fifth;
        }

        /** Times x + y r; r is 2 z - z z z. */
        void timesReal(long x, long y) {
            long first = x * a + y * (b - d);
            long second = x * b + y * (2 * a + c);
            long third = x * c + y * (b + 2 * d);
            d = x * d + y * (c - a);
            a = first;
            b = second;
            c = third;
        }

        /** By a number that leaves whole parts. */
        void divide(long by) {
            if (by != 0) {
                a /= by;
                b /= by;
                c /= by;
                d /= by;
            }
        }

        /** x of one that is x + y r. */
        long realX() {
            return a;
        }

        /** y of one that is x + y r. */
        long realY() {
            return -d;
        }

        long powerX() {
            return a * a + b * b + c * c + d * d + a * c + b * d;
        }

        long powerY() {
            return a * b + b * c + c * d;
        }
    }

    /** What the TEXT tells: ELEMENTS, WISHES, STEPS. Without an ARRAY, STEPS are 0. */
    private static final class Plan {
        private final int[] positions;
        private final int[] deafs;
        private int size;
        private int broken;
        private int look;
        private int deafCount;
        private int steps;
        private int lines;

        Plan() {
            positions = new int[MOST_ELEMENTS];
            deafs = new int[MOST_DEAF];
            look = NONE;
        }

        void clear() {
            size = 0;
            broken = 0;
            look = NONE;
            deafCount = 0;
            steps = 0;
            lines = 0;
        }

        void copy(Plan other) {
            for (int i = 0; i < MOST_ELEMENTS; i++) {
                positions[i] = other.positions[i];
            }
            for (int i = 0; i < MOST_DEAF; i++) {
                deafs[i] = other.deafs[i];
            }
            size = other.size;
            broken = other.broken;
            look = other.look;
            deafCount = other.deafCount;
            steps = other.steps;
            lines = other.lines;
        }

        boolean isNone() {
            return steps == 0;
        }

        boolean has(int element) {
            return isAmong(element, size);
        }

        boolean works(int element) {
            return (broken >> element & 1) == 0;
        }

        int workingBits() {
            return ((1 << size) - 1) & ~broken;
        }

        int working() {
            return Integer.bitCount(workingBits());
        }

        /** NONE: no ELEMENT stands there. */
        int elementAt(int position) {
            for (int i = 0; i < size; i++) {
                if (positions[i] == position) {
                    return i;
                }
            }
            return NONE;
        }

        void addElement(int position, boolean isBroken) {
            if (size < MOST_ELEMENTS) {
                positions[size] = position;
                if (isBroken) {
                    broken |= 1 << size;
                }
                size++;
            }
        }

        /** ELEMENTS that work at each POSITION of a set, and no others. */
        void standAt(int set) {
            size = 0;
            broken = 0;
            for (int position = 0; position < POSITIONS; position++) {
                if ((set >> position & 1) != 0) {
                    addElement(position, false);
                }
            }
        }

        int deafBits() {
            int bits = 0;
            for (int i = 0; i < deafCount; i++) {
                bits |= 1 << deafs[i];
            }
            return bits;
        }

        int wishBits() {
            return look == NONE ? deafBits() : deafBits() | 1 << look;
        }

        int wishCount() {
            return look == NONE ? deafCount : deafCount + 1;
        }

        void addDeaf(int direction) {
            if (deafCount < MOST_DEAF) {
                deafs[deafCount] = direction;
                deafCount++;
            }
        }

        void dropDeaf(int direction) {
            int kept = 0;
            for (int i = 0; i < deafCount; i++) {
                if (deafs[i] != direction) {
                    deafs[kept] = deafs[i];
                    kept++;
                }
            }
            deafCount = kept;
        }

        void turnTo(int direction) {
            dropDeaf(direction);
            look = direction;
        }

        /** TWINS hear each step from the first working ELEMENT to another by the same root. */
        int twinBits(int direction) {
            int bits = 0;
            for (int other = 0; other < DIRECTIONS; other++) {
                if (areTwins(direction, other)) {
                    bits |= 1 << other;
                }
            }
            return bits;
        }

        private boolean areTwins(int direction, int other) {
            int first = NONE;
            for (int i = 0; i < size; i++) {
                if (works(i)) {
                    if (first == NONE) {
                        first = positions[i];
                    }
                    if ((direction - other) * (positions[i] - first) % 12 != 0) {
                        return false;
                    }
                }
            }
            return true;
        }

        int asideBits() {
            int near = wishBits();
            if (look != NONE) {
                near |= twinBits(look);
            }
            return ALL_DIRECTIONS & ~near;
        }

        /** What the ROWS of two DIRECTIONS make with one another. */
        void meet(int direction, int other, Num into) {
            into.clear();
            int turn = (direction - other + DIRECTIONS) % 12;
            for (int i = 0; i < size; i++) {
                if (works(i)) {
                    into.addRoot(turn * positions[i]);
                }
            }
        }

        /** The GAIN of a DIRECTION by such weights. */
        void hearBy(Num[] weights, int direction, Num into) {
            into.clear();
            for (int i = 0; i < size && i < weights.length; i++) {
                if (works(i)) {
                    into.addTurned(weights[i], direction * positions[i]);
                }
            }
        }
    }

    /** Reads the TAPE as a TEXT. */
    private static final class Reader {
        private static final int END = 0;
        private static final int WORD = 1;
        private static final int NUMBER = 2;
        private static final int SIGN = 3;
        private static final int NOTHING = 4;

        private static final int CANNOT_STAND = 1;
        private static final int OUT_OF_BOUNDS = 2;
        private static final int TOO_MANY = 3;

        private static final int LARGE = 1000;

        private final int[] tape;
        private final Plan draft;
        private int size;
        private int at;
        private int start;
        private int kind;
        private int number;
        private int fault;
        private int place;

        Reader() {
            tape = new int[MOST_TAPE];
            draft = new Plan();
            place = NONE;
        }

        void take(int four) {
            for (int shift = 24; shift >= 0 && size < MOST_TAPE; shift -= 8) {
                tape[size] = four >> shift & 255;
                size++;
            }
        }

        void readText() {
            draft.clear();
            fault = 0;
            place = NONE;
            at = 0;
            nextToken();
            // a LINE takes a byte at least
            for (int i = 0; i <= MOST_TAPE && fault == 0 && kind != END; i++) {
                if (draft.lines == 0) {
                    readFirstLine();
                } else {
                    readLine();
                }
                expectSign();
            }
        }

        private void readFirstLine() {
            expectWord("array");
            expectWord("steps");
            if (expectNumber(1, MOST_STEPS)) {
                draft.steps = number;
                nextToken();
            }
        }

        private void readLine() {
            if (isWord("element") || isWord("broken")) {
                readElement(isWord("broken"));
            } else if (isWord("look")) {
                readLook();
            } else if (isWord("deaf")) {
                readDeaf();
            } else {
                blame(CANNOT_STAND);
            }
        }

        private void readElement(boolean isBroken) {
            if (draft.size == MOST_ELEMENTS) {
                blame(TOO_MANY);
            }
            nextToken();
            if (expectNumber(0, POSITIONS - 1)) {
                if (draft.elementAt(number) != NONE) {
                    blame(OUT_OF_BOUNDS);
                }
                draft.addElement(number, isBroken);
                nextToken();
            }
        }

        private void readLook() {
            if (draft.look != NONE) {
                blame(TOO_MANY);
            }
            nextToken();
            if (expectDirection()) {
                draft.look = number;
                nextToken();
            }
        }

        private void readDeaf() {
            if (draft.deafCount == MOST_DEAF) {
                blame(TOO_MANY);
            }
            nextToken();
            if (expectDirection()) {
                draft.addDeaf(number);
                nextToken();
            }
        }

        private void expectSign() {
            if (kind != SIGN) {
                blame(CANNOT_STAND);
            }
            draft.lines++;
            nextToken();
        }

        private void expectWord(String word) {
            if (!isWord(word)) {
                blame(CANNOT_STAND);
            }
            nextToken();
        }

        private boolean expectDirection() {
            if (!expectNumber(0, DIRECTIONS - 1)) {
                return false;
            }
            if ((draft.wishBits() >> number & 1) != 0) {
                blame(OUT_OF_BOUNDS);
            }
            return fault == 0;
        }

        private boolean expectNumber(int least, int most) {
            if (kind != NUMBER) {
                blame(CANNOT_STAND);
            } else if (number < least || number > most) {
                blame(OUT_OF_BOUNDS);
            }
            return fault == 0;
        }

        /** TOKENS are read in their order, so the first FAULT that is found is the one that counts. */
        private void blame(int what) {
            if (fault == 0) {
                fault = what;
                place = start;
            }
        }

        private boolean isWord(String word) {
            if (kind != WORD || at - start != word.length()) {
                return false;
            }
            for (int i = start; i < at; i++) {
                if (tape[i] != word.charAt(i - start)) {
                    return false;
                }
            }
            return true;
        }

        private void nextToken() {
            while (at < size && (tape[at] == ' ' || tape[at] == '\n')) {
                at++;
            }
            start = at;
            number = 0;
            if (at >= size) {
                kind = END;
            } else if (isLetter(tape[at])) {
                kind = WORD;
                while (at < size && isLetter(tape[at])) {
                    at++;
                }
            } else if (isDigit(tape[at])) {
                kind = NUMBER;
                while (at < size && isDigit(tape[at])) {
                    // beyond all bounds it need not grow
                    number = Math.min(LARGE, number * 10 + tape[at] - '0');
                    at++;
                }
            } else {
                kind = tape[at] == ';' ? SIGN : NOTHING;
                at++;
            }
        }

        private static boolean isLetter(int octet) {
            return octet >= 'a' && octet <= 'z';
        }

        private static boolean isDigit(int octet) {
            return octet >= '0' && octet <= '9';
        }
    }

    /**
     * Finds the TRUE WEIGHTS of a plan: they are SHARES times ROWS TURNED, and SHARES solve what the ROWS make with one
     * another. That form is brought to steps without fractions: each cell stays a determinant, so it is whole, and each
     * division leaves nothing. A WISH is LOST just where its pivot is 0, and all of its row with it.
     */
    private static final class Solver {
        private static final int WIDTH = MOST_WISHES + 1;
        private static final int ASKED = MOST_WISHES;

        private final Plan plan;
        private final int[] wished;
        private final boolean[] lost;
        private final Num[] form;
        private final Num[] shares;
        private final Num[] weights;
        private final Num[] gains;
        private final long[] powerX;
        private final long[] powerY;
        private final Num left;
        private final Num right;
        private int wishes;
        private int rank;
        private boolean holds;
        private long roomX;
        private long roomY;
        private long lower;

        Solver() {
            plan = new Plan();
            wished = new int[MOST_WISHES];
            lost = new boolean[MOST_WISHES];
            form = makeNums(MOST_WISHES * WIDTH);
            shares = makeNums(MOST_WISHES);
            weights = makeNums(MOST_ELEMENTS);
            gains = makeNums(DIRECTIONS);
            powerX = new long[DIRECTIONS];
            powerY = new long[DIRECTIONS];
            left = new Num();
            right = new Num();
        }

        /** RANK, LOST ones, ROOM; and SHARES and WEIGHTS, all by one lower number, if there are TRUE WEIGHTS. */
        void solve() {
            listWishes();
            fillForm();
            holds = plan.look != NONE;
            eliminate();
            if (holds) {
                substitute();
                weigh();
            }
        }

        /** GAINS and their POWERS (lower number: the WEIGHTS' one times itself). */
        void listen() {
            for (int direction = 0; direction < DIRECTIONS; direction++) {
                plan.hearBy(weights, direction, gains[direction]);
                powerX[direction] = gains[direction].powerX();
                powerY[direction] = gains[direction].powerY();
            }
        }

        private void listWishes() {
            wishes = 0;
            if (plan.look != NONE) {
                wished[0] = plan.look;
                wishes = 1;
            }
            for (int i = 0; i < plan.deafCount && wishes < MOST_WISHES; i++) {
                wished[wishes] = plan.deafs[i];
                wishes++;
            }
        }

        /** Only cells at the diagonal and behind it are kept: the others are those TURNED. */
        private void fillForm() {
            for (int i = 0; i < wishes; i++) {
                for (int j = i; j < wishes; j++) {
                    plan.meet(wished[i], wished[j], form[i * WIDTH + j]);
                }
                form[i * WIDTH + ASKED].clear();
            }
            if (plan.look != NONE) {
                form[ASKED].addRoot(0);
            }
        }

        private void eliminate() {
            rank = 0;
            roomX = 1;
            roomY = 0;
            for (int i = 0; i < wishes; i++) {
                Num pivot = form[i * WIDTH + i];
                lost[i] = pivot.isZero();
                if (lost[i]) {
                    // a LOST WISH for which more than 0 is left to ask cannot be
                    holds = holds && form[i * WIDTH + ASKED].isZero();
                } else {
                    for (int j = i + 1; j < wishes; j++) {
                        lowerRow(i, j);
                    }
                    rank++;
                    roomX = pivot.realX();
                    roomY = pivot.realY();
                }
            }
        }

        /** The pivot's row is taken out of another; the pivot before it is divided out. */
        private void lowerRow(int pivotRow, int row) {
            Num pivot = form[pivotRow * WIDTH + pivotRow];
            long norm = normOf(roomX, roomY);
            left.mirror(form[pivotRow * WIDTH + row]);
            for (int j = row; j < WIDTH; j++) {
                if (j < wishes || j == ASKED) {
                    Num cell = form[row * WIDTH + j];
                    right.multiply(left, form[pivotRow * WIDTH + j]);
                    cell.timesReal(pivot.realX(), pivot.realY());
                    cell.takeAway(right);
                    if (rank > 0) {
                        cell.timesReal(roomX, -roomY);
                        cell.divide(norm);
                    }
                }
            }
        }

        /** x + y r times x - y r, a whole number: to divide by x + y r is to multiply by x - y r and divide by it. */
        private static long normOf(long x, long y) {
            return x * x - 3 * y * y;
        }

        /** SHARES times ROOM are whole, so ROOM's norm is a lower number for all. */
        private void substitute() {
            for (int i = wishes - 1; i >= 0; i--) {
                Num share = shares[i];
                share.clear();
                if (!lost[i]) {
                    share.copy(form[i * WIDTH + ASKED]);
                    share.timesReal(roomX, roomY);
                    for (int j = i + 1; j < wishes; j++) {
                        right.multiply(form[i * WIDTH + j], shares[j]);
                        share.takeAway(right);
                    }
                    Num pivot = form[i * WIDTH + i];
                    share.timesReal(pivot.realX(), -pivot.realY());
                    share.divide(normOf(pivot.realX(), pivot.realY()));
                }
            }
            for (int i = 0; i < wishes; i++) {
                shares[i].timesReal(roomX, -roomY);
            }
            lower = normOf(roomX, roomY);
        }

        private void weigh() {
            for (int element = 0; element < plan.size; element++) {
                Num weight = weights[element];
                weight.clear();
                if (plan.works(element)) {
                    for (int i = 0; i < wishes; i++) {
                        weight.addTurned(shares[i], (DIRECTIONS - wished[i]) * plan.positions[element]);
                    }
                }
            }
        }

        /** TOTAL is the SHARE of the LOOK, as GAINS of all others that have SHARES are 0. */
        long totalX() {
            return shares[0].realX();
        }

        long totalY() {
            return shares[0].realY();
        }

        int comparePowers(int direction, int other) {
            return signOf(powerX[direction] - powerX[other], powerY[direction] - powerY[other]);
        }

        int comparePowerTo(int direction, int above, int below) {
            return compareTo(powerX[direction], powerY[direction], above, below);
        }

        private int compareTo(long x, long y, int above, int below) {
            return signOf(below * x - above * lower * lower, below * y);
        }

        /** How many DIRECTIONS are ahead, the loudest first. */
        int placeByPower(int direction) {
            int ahead = 0;
            for (int other = 0; other < DIRECTIONS; other++) {
                int compared = comparePowers(other, direction);
                if (compared > 0 || (compared == 0 && other < direction)) {
                    ahead++;
                }
            }
            return ahead;
        }

        /** GAINS are heard one by one, as the first that is too loud ends it: listen() need not be ahead. */
        boolean asideAtMost(int above, int below) {
            int aside = plan.asideBits();
            for (int direction = 0; direction < DIRECTIONS; direction++) {
                if ((aside >> direction & 1) != 0) {
                    plan.hearBy(weights, direction, left);
                    if (compareTo(left.powerX(), left.powerY(), above, below) > 0) {
                        return false;
                    }
                }
            }
            return true;
        }

        private static Num[] makeNums(int count) {
            Num[] made = new Num[Math.max(0, count)];
            for (int i = 0; i < made.length; i++) {
                made[i] = new Num();
            }
            return made;
        }
    }

    /** Weights that are CUT, and single STEPS of them. */
    private static final class Cutter {
        private final Num[] cuts;
        private final Num[] deafGains;
        private final Num probe;
        private long sumX;
        private long sumY;
        private int stepElement;
        private int stepPart;
        private int stepSign;
        private long stepX;
        private long stepY;

        Cutter() {
            cuts = Solver.makeNums(MOST_ELEMENTS);
            deafGains = Solver.makeNums(MOST_DEAF);
            probe = new Num();
        }

        void roundAll(Solver solver, int steps) {
            for (int i = 0; i < solver.plan.size; i++) {
                Num weight = solver.weights[i];
                cuts[i].setParts(nearestWhole(weight.a * steps, solver.lower),
                        nearestWhole(weight.b * steps, solver.lower),
                        nearestWhole(weight.c * steps, solver.lower),
                        nearestWhole(weight.d * steps, solver.lower));
            }
        }

        private static long nearestWhole(long above, long below) {
            return below == 0 ? 0 : Math.floorDiv(2 * above + below, 2 * below);
        }

        boolean losesNothing(Solver solver, int steps) {
            if (solver.lower == 0) {
                return false;
            }
            for (int i = 0; i < solver.plan.size; i++) {
                for (int part = 0; part < PARTS; part++) {
                    if (solver.weights[i].part(part) * steps % solver.lower != 0) {
                        return false;
                    }
                }
            }
            return true;
        }

        /** The ERROR of a DIRECTION, times STEPS and the lower number of WEIGHTS. */
        void missAt(Solver solver, int direction, Num into) {
            solver.plan.hearBy(cuts, direction, into);
            into.scale(solver.lower);
            into.addScaled(solver.gains[direction], -solver.plan.steps);
        }

        boolean deafAtMost(Solver solver, int steps, int above, int below) {
            Plan plan = solver.plan;
            for (int i = 0; i < plan.deafCount; i++) {
                plan.hearBy(cuts, plan.deafs[i], probe);
                if (signOf(below * probe.powerX() - (long) above * steps * steps, below * probe.powerY()) > 0) {
                    return false;
                }
            }
            return true;
        }

        void hearDeaf(Solver solver) {
            Plan plan = solver.plan;
            sumX = 0;
            sumY = 0;
            for (int i = 0; i < plan.deafCount; i++) {
                plan.hearBy(cuts, plan.deafs[i], deafGains[i]);
                sumX += deafGains[i].powerX();
                sumY += deafGains[i].powerY();
            }
        }

        /** The STEP that makes the sum least, if one makes it less. */
        boolean seekStep(Plan plan) {
            stepElement = NONE;
            stepX = sumX;
            stepY = sumY;
            for (int element = 0; element < plan.size; element++) {
                if (plan.works(element)) {
                    for (int part = 0; part < PARTS; part++) {
                        tryStep(plan, element, part, 1);
                        tryStep(plan, element, part, -1);
                    }
                }
            }
            return stepElement != NONE;
        }

        private void tryStep(Plan plan, int element, int part, int sign) {
            long x = 0;
            long y = 0;
            for (int i = 0; i < plan.deafCount; i++) {
                probe.copy(deafGains[i]);
                probe.addRoot(rootOfStep(plan, i, element, part, sign));
                x += probe.powerX();
                y += probe.powerY();
            }
            if (signOf(x - stepX, y - stepY) < 0) {
                stepElement = element;
                stepPart = part;
                stepSign = sign;
                stepX = x;
                stepY = y;
            }
        }

        /** By which power of z the i-th DEAF one hears a STEP. */
        private static int rootOfStep(Plan plan, int i, int element, int part, int sign) {
            int opposite = sign < 0 ? 6 : 0;
            return part + plan.deafs[i] * plan.positions[element] + opposite;
        }

        void takeStep(Plan plan) {
            for (int i = 0; i < plan.deafCount; i++) {
                deafGains[i].addRoot(rootOfStep(plan, i, stepElement, stepPart, stepSign));
            }
            sumX = stepX;
            sumY = stepY;
        }
    }

    /** Which of what is offered has the least TOTAL; of like ones the one that came first. */
    private static final class Least {
        private int found;
        private long x;
        private long y;
        private long lower;

        void clear() {
            found = NONE;
        }

        void offer(Solver solver, int candidate) {
            if (found == NONE || signOf(solver.totalX() * lower - x * solver.lower,
                    solver.totalY() * lower - y * solver.lower) < 0) {
                found = candidate;
                x = solver.totalX();
                y = solver.totalY();
                lower = solver.lower;
            }
        }
    }

    /** Which of NUMBERS that are offered has the greatest POWER; of like ones the one that came first. */
    private static final class Greatest {
        private int found;
        private long x;
        private long y;

        void clear() {
            found = NONE;
        }

        void offer(Num number, int candidate) {
            long otherX = number.powerX();
            long otherY = number.powerY();
            if (found == NONE || signOf(otherX - x, otherY - y) > 0) {
                found = candidate;
                x = otherX;
                y = otherY;
            }
        }
    }

    /** OUT. */
    private static final class Out {
        private final int[] bytes;
        private int size;

        Out() {
            bytes = new int[MOST_OUT];
        }

        /** Four parts and the lower number. */
        void writeFraction(long[] parts) {
            size = 0;
            for (int i = 0; i < PARTS && i < parts.length; i++) {
                writePart(parts[i], i);
            }
            if (size == 0) {
                write('0');
            }
            if (parts.length > PARTS && parts[PARTS] != 1) {
                write('/');
                writeNumber(parts[PARTS]);
            }
        }

        private void writePart(long part, int zs) {
            if (part == 0) {
                return;
            }
            if (part < 0) {
                write('-');
            } else if (size > 0) {
                write('+');
            }
            if (zs == 0 || Math.abs(part) != 1) {
                writeNumber(Math.abs(part));
            }
            for (int i = 0; i < zs; i++) {
                write('z');
            }
        }

        private void writeNumber(long number) {
            long unit = 1;
            for (int i = 0; i < 18 && unit <= number / 10; i++) {
                unit *= 10;
            }
            for (int i = 0; i < 19 && unit > 0; i++) {
                write((int) ('0' + number / unit % 10));
                unit /= 10;
            }
        }

        private void write(int octet) {
            if (size < MOST_OUT) {
                bytes[size] = octet;
                size++;
            }
        }
    }
}
