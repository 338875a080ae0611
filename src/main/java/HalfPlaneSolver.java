/**
 * The best point of a plane region cut out by straight lines, in exact fractions.
 *
 * The region is bounded and convex, so it is empty just when it has no corner, its best point is
 * one of its corners, and a line allows all of it just when it allows all its corners. Every
 * question about the region but inside and grid is therefore answered by going through the points
 * in which two borders meet.
 *
 * The four sides of the square are kept as half-planes in the first slots, before the lines of the
 * list, so that sides and lines are treated alike. A point is three whole numbers x, y, d with
 * d >= 1 and stands for (x / d, y / d). All numbers stay below 2^24, far inside an int.
 */
public final class HalfPlaneSolver {
    private static final int SIDES = 4;
    private static final int MOST_LINES = 10;
    private static final int SLOTS = SIDES + MOST_LINES;
    private static final int PAIRS = SLOTS * SLOTS;
    private static final int NONE = -1;

    private static final int HALF_WIDTH = 20;
    private static final int GREATEST_FACTOR = 9;
    private static final int GREATEST_LIMIT = 99;
    private static final int GREATEST_TOP = 2000;
    private static final int GREATEST_BOTTOM = 50;

    // Euclid's steps for numbers below 2^24 are fewer than 40.
    private static final int GCD_STEPS = 1000;

    private final int[] slotA = new int[SLOTS];
    private final int[] slotB = new int[SLOTS];
    private final int[] slotC = new int[SLOTS];
    private int used;
    private int goalP;
    private int goalQ;

    public HalfPlaneSolver() {
        used = 0;
        goalP = 0;
        goalQ = 0;
        append(-1, 0, HALF_WIDTH);
        append(1, 0, HALF_WIDTH);
        append(0, -1, HALF_WIDTH);
        append(0, 1, HALF_WIDTH);
    }

    public int add(int a, int b, int c) {
        if (!isWithin(a, GREATEST_FACTOR) || !isWithin(b, GREATEST_FACTOR)) {
            return -1;
        }
        if (!isWithin(c, GREATEST_LIMIT)) {
            return -2;
        }
        if (used >= SLOTS) {
            return -3;
        }
        append(a, b, c);
        return used - SIDES - 1;
    }

    public int remove(int line) {
        if (!isGood(line)) {
            return -1;
        }
        for (int slot = SIDES + line; slot < used - 1; slot++) {
            slotA[slot] = slotA[slot + 1];
            slotB[slot] = slotB[slot + 1];
            slotC[slot] = slotC[slot + 1];
        }
        used--;
        return used - SIDES;
    }

    public int shift(int line, int by) {
        if (!isGood(line)) {
            return -1;
        }
        // The sum of an int and c may not fit into an int.
        long moved = (long) slotC[SIDES + line] + (long) by;
        if (!isWithin(moved, GREATEST_LIMIT)) {
            return -2;
        }
        slotC[SIDES + line] = (int) moved;
        return (int) moved;
    }

    public int goal(int p, int q) {
        if (!isWithin(p, GREATEST_FACTOR) || !isWithin(q, GREATEST_FACTOR)) {
            return -1;
        }
        goalP = p;
        goalQ = q;
        return 0;
    }

    public int lines() {
        return used - SIDES;
    }

    public int empty() {
        return bestPair() == NONE ? 1 : 0;
    }

    public int valueTop() {
        int best = bestPair();
        if (best == NONE) {
            return 0;
        }
        int top = pairValue(best);
        int bottom = pairBottom(best);
        return lowestTop(top, bottom);
    }

    public int valueBottom() {
        int best = bestPair();
        if (best == NONE) {
            return 0;
        }
        int top = pairValue(best);
        int bottom = pairBottom(best);
        return lowestBottom(top, bottom);
    }

    public int xTop() {
        int best = bestPair();
        if (best == NONE) {
            return 0;
        }
        int top = pairX(best);
        int bottom = pairBottom(best);
        return lowestTop(top, bottom);
    }

    public int xBottom() {
        int best = bestPair();
        if (best == NONE) {
            return 0;
        }
        int top = pairX(best);
        int bottom = pairBottom(best);
        return lowestBottom(top, bottom);
    }

    public int yTop() {
        int best = bestPair();
        if (best == NONE) {
            return 0;
        }
        int top = pairY(best);
        int bottom = pairBottom(best);
        return lowestTop(top, bottom);
    }

    public int yBottom() {
        int best = bestPair();
        if (best == NONE) {
            return 0;
        }
        int top = pairY(best);
        int bottom = pairBottom(best);
        return lowestBottom(top, bottom);
    }

    public int tight() {
        int best = bestPair();
        if (best == NONE) {
            return -1;
        }
        int x = pairX(best);
        int y = pairY(best);
        int d = pairBottom(best);
        int found = 0;
        for (int slot = SIDES; slot < used; slot++) {
            if (slack(slot, x, y, d) == 0) {
                found++;
            }
        }
        return found;
    }

    public int redundant(int line) {
        if (!isGood(line)) {
            return -1;
        }
        int without = SIDES + line;
        for (int pair = 0; pair < PAIRS; pair++) {
            if (isCorner(pair, without) && cutsOff(without, pair)) {
                return 0;
            }
        }
        return 1;
    }

    public int corners() {
        int found = 0;
        for (int pair = 0; pair < PAIRS; pair++) {
            if (isCorner(pair, NONE) && isFirstAtItsPoint(pair)) {
                found++;
            }
        }
        return found;
    }

    public int inside(int x, int y, int d) {
        if (d < 1 || d > GREATEST_BOTTOM) {
            return -1;
        }
        if (!isWithin(x, GREATEST_TOP) || !isWithin(y, GREATEST_TOP)) {
            return -2;
        }
        return isAllowed(x, y, d, NONE) ? 1 : 0;
    }

    public int grid() {
        int found = 0;
        for (int x = -HALF_WIDTH; x <= HALF_WIDTH; x++) {
            for (int y = -HALF_WIDTH; y <= HALF_WIDTH; y++) {
                if (isAllowed(x, y, 1, NONE)) {
                    found++;
                }
            }
        }
        return found;
    }

    private static boolean isWithin(long number, int bound) {
        return number >= -bound && number <= bound;
    }

    private boolean isGood(int line) {
        return line >= 0 && line < used - SIDES;
    }

    private void append(int a, int b, int c) {
        if (used < SLOTS) {
            slotA[used] = a;
            slotB[used] = b;
            slotC[used] = c;
            used++;
        }
    }

    /** Positive inside the half-plane, 0 on its border, negative outside. */
    private int slack(int slot, int x, int y, int d) {
        return slotC[slot] * d - slotA[slot] * x - slotB[slot] * y;
    }

    private boolean isAllowed(int x, int y, int d, int without) {
        for (int slot = 0; slot < used; slot++) {
            if (slot != without && slack(slot, x, y, d) < 0) {
                return false;
            }
        }
        return true;
    }

    // A pair of slots (first, second) is the number first * SLOTS + second. Its borders meet in the
    // point (pairX / pairBottom, pairY / pairBottom) by Cramer's rule. Of the two orders of borders
    // that are not parallel just one has a positive pairBottom; only that one is taken as a point.

    private int pairBottom(int pair) {
        int first = pair / SLOTS;
        int second = pair % SLOTS;
        return slotA[first] * slotB[second] - slotA[second] * slotB[first];
    }

    private int pairX(int pair) {
        int first = pair / SLOTS;
        int second = pair % SLOTS;
        return slotC[first] * slotB[second] - slotC[second] * slotB[first];
    }

    private int pairY(int pair) {
        int first = pair / SLOTS;
        int second = pair % SLOTS;
        return slotA[first] * slotC[second] - slotA[second] * slotC[first];
    }

    private int pairValue(int pair) {
        return goalP * pairX(pair) + goalQ * pairY(pair);
    }

    private boolean isPoint(int pair, int without) {
        int first = pair / SLOTS;
        int second = pair % SLOTS;
        if (first >= used || second >= used || first == without || second == without) {
            return false;
        }
        return pairBottom(pair) > 0;
    }

    /** Whether the pair is a corner of the region that all half-planes but one slot's cut out. */
    private boolean isCorner(int pair, int without) {
        if (!isPoint(pair, without)) {
            return false;
        }
        int x = pairX(pair);
        int y = pairY(pair);
        int d = pairBottom(pair);
        return isAllowed(x, y, d, without);
    }

    private boolean cutsOff(int slot, int pair) {
        int x = pairX(pair);
        int y = pairY(pair);
        int d = pairBottom(pair);
        return slack(slot, x, y, d) < 0;
    }

    // Three and more borders may meet in one point, which is then the point of several pairs.
    private boolean isFirstAtItsPoint(int pair) {
        for (int earlier = 0; earlier < pair; earlier++) {
            if (isPoint(earlier, NONE) && isSamePoint(earlier, pair)) {
                return false;
            }
        }
        return true;
    }

    private boolean isSamePoint(int one, int other) {
        int oneBottom = pairBottom(one);
        int otherBottom = pairBottom(other);
        return pairX(one) * otherBottom == pairX(other) * oneBottom
                && pairY(one) * otherBottom == pairY(other) * oneBottom;
    }

    private int bestPair() {
        int best = NONE;
        for (int pair = 0; pair < PAIRS; pair++) {
            if (isCorner(pair, NONE) && (best == NONE || isBetter(pair, best))) {
                best = pair;
            }
        }
        return best;
    }

    private boolean isBetter(int one, int other) {
        int oneBottom = pairBottom(one);
        int otherBottom = pairBottom(other);
        int moreValue = pairValue(one) * otherBottom - pairValue(other) * oneBottom;
        if (moreValue != 0) {
            return moreValue > 0;
        }
        int moreX = pairX(one) * otherBottom - pairX(other) * oneBottom;
        if (moreX != 0) {
            return moreX < 0;
        }
        return pairY(one) * otherBottom < pairY(other) * oneBottom;
    }

    private static int lowestTop(int top, int bottom) {
        int divisor = greatestDivisor(top, bottom);
        return divisor > 1 ? top / divisor : top;
    }

    private static int lowestBottom(int top, int bottom) {
        int divisor = greatestDivisor(top, bottom);
        return divisor > 1 ? bottom / divisor : bottom;
    }

    private static int greatestDivisor(int top, int bottom) {
        int larger = top < 0 ? -top : top;
        int smaller = bottom;
        for (int step = 0; step < GCD_STEPS && smaller != 0; step++) {
            int rest = larger % smaller;
            larger = smaller;
            smaller = rest;
        }
        return larger;
    }
}
