import java.util.Arrays;
import java.util.function.ToIntFunction;

/** The boundary cases that promises 7 to 14 name; each method stands for one sentence. */
public final class BestPointBoundaryTest {
    public static void main(String[] args) {
        emptyOfEmptyRegions();
        emptyByTheLeastStep();
        emptyByAnyOfTenLines();
        notEmptyWithoutLines();
        notEmptyWithTenLines();
        valueTopOfEmptyRegions();
        valueBottomOfEmptyRegions();
        xTopOfEmptyRegions();
        xBottomOfEmptyRegions();
        yTopOfEmptyRegions();
        yBottomOfEmptyRegions();
        bestPointWithoutLines();
        bestPointOfTenLines();
        bestPointOfSmallestRegions();
        valueAtTheEdges();
        bestPointAfterEmptiness();
        tightOfEmptyRegions();
        tightWithoutLines();
        tightWithLinesWithoutDirection();
        tightWithTenLines();
        tightLeavesTheSquareOut();
        tightAtTheLeastDistance();
        Check.end();
    }

    private static void eachEmptyRegion(String what, ToIntFunction<HalfPlaneSolver> asked, int want) {
        for (int[] lines : Given.emptyRegions()) {
            for (int[] goal : new int[][] {{0, 0}, {9, 9}, {-9, 9}, {1, 0}, {0, -1}}) {
                HalfPlaneSolver s = Given.lines(lines);
                s.goal(goal[0], goal[1]);
                Check.due(what + " of " + Arrays.toString(lines) + " goal " + Arrays.toString(goal),
                        asked.applyAsInt(s), want);
            }
        }
    }

    // "1 if the region is empty .."
    private static void emptyOfEmptyRegions() {
        eachEmptyRegion("empty", s -> s.empty(), 1);
    }

    // ".. otherwise 0"
    private static void emptyByTheLeastStep() {
        for (int[] lines : Given.emptyRegions()) {
            HalfPlaneSolver s = Given.lines(lines);
            int last = s.lines() - 1;
            // All but 0 <= -99 are one step of the last line's c away from a point.
            if (lines[lines.length - 1] > -99) {
                s.shift(last, 1);
                Check.due("one step back from " + Arrays.toString(lines), s.empty(), 0);
                s.shift(last, -1);
                Check.due("back in " + Arrays.toString(lines), s.empty(), 1);
            }
        }
    }

    private static void emptyByAnyOfTenLines() {
        for (int line = 0; line < 10; line++) {
            HalfPlaneSolver s = Given.same(10, -1, 0, -20);
            Check.due("ten lines x >= 20", s.empty(), 0);
            s.shift(line, -1);
            Check.due("ten lines, one x >= 21", s.empty(), 1);
            s.remove(line);
            Check.due("ten lines, x >= 21 taken out", s.empty(), 0);
            s.add(0, 0, -1);
            Check.due("ten lines, 0 <= -1 put in", s.empty(), 1);
        }
    }

    private static void notEmptyWithoutLines() {
        Check.due("no lines", new HalfPlaneSolver().empty(), 0);
        HalfPlaneSolver s = Given.lines(0, 0, -1);
        s.remove(0);
        Check.due("no lines any more", s.empty(), 0);
    }

    private static void notEmptyWithTenLines() {
        HalfPlaneSolver s = throughOnePoint();
        Check.due("ten lines through one point", s.empty(), 0);
        Check.due("only that point", s.corners(), 1);
        for (int line = 0; line < 10; line++) {
            s.shift(line, -1);
            Check.due("ten lines, " + line + " beyond the point", s.empty(), 1);
            s.shift(line, 1);
        }
        Check.due("ten lines through one point again", s.empty(), 0);
    }

    /** Ten lines all through (3/2, -5/2), which is the only point that they all allow. */
    private static HalfPlaneSolver throughOnePoint() {
        HalfPlaneSolver s = new HalfPlaneSolver();
        int[][] factors = {{1, 1}, {-1, -1}, {2, 4}, {-2, -4}, {6, -2}, {-6, 2}, {9, 9}, {-8, 2},
            {0, 6}, {-4, 0}};
        for (int[] f : factors) {
            s.add(f[0], f[1], (3 * f[0] - 5 * f[1]) / 2);
        }
        return s;
    }

    // "The numerator of the greatest value of a point of the region; 0 if the region is empty."
    private static void valueTopOfEmptyRegions() {
        eachEmptyRegion("valueTop", s -> s.valueTop(), 0);
    }

    // "Its denominator; 0 if the region is empty."
    private static void valueBottomOfEmptyRegions() {
        eachEmptyRegion("valueBottom", s -> s.valueBottom(), 0);
    }

    // "The numerator of the best point's x; 0 if the region is empty."
    private static void xTopOfEmptyRegions() {
        eachEmptyRegion("xTop", s -> s.xTop(), 0);
    }

    // "Its denominator; 0 if the region is empty."
    private static void xBottomOfEmptyRegions() {
        eachEmptyRegion("xBottom", s -> s.xBottom(), 0);
    }

    // "The numerator of the best point's y; 0 if the region is empty."
    private static void yTopOfEmptyRegions() {
        eachEmptyRegion("yTop", s -> s.yTop(), 0);
    }

    // "Its denominator; 0 if the region is empty."
    private static void yBottomOfEmptyRegions() {
        eachEmptyRegion("yBottom", s -> s.yBottom(), 0);
    }

    private static void bestPointWithoutLines() {
        HalfPlaneSolver s = new HalfPlaneSolver();
        s.goal(-9, -9);
        Check.dueBest("no lines, goal (-9, -9)", s, 360, 1, -20, 1, -20, 1);
        s.goal(9, 9);
        Check.dueBest("no lines, goal (9, 9)", s, 360, 1, 20, 1, 20, 1);
    }

    private static void bestPointOfTenLines() {
        for (int line = 0; line < 10; line++) {
            HalfPlaneSolver s = Given.same(10, 9, 8, 99);
            s.shift(line, -2);
            s.goal(9, 8);
            // The left end of 9x + 8y = 97 on the upper side of the square.
            Check.dueBest("ten lines, the least is " + line, s, 97, 1, -7, 1, 20, 1);
        }
    }

    private static void bestPointOfSmallestRegions() {
        HalfPlaneSolver point = throughOnePoint();
        for (int p = -9; p <= 9; p += 3) {
            for (int q = -9; q <= 9; q += 3) {
                int doubled = 3 * p - 5 * q;
                boolean whole = doubled % 2 == 0;
                point.goal(p, q);
                Check.dueBest("one point, goal " + p + " " + q, point,
                        whole ? doubled / 2 : doubled, whole ? 1 : 2, 3, 2, -5, 2);
            }
        }
        HalfPlaneSolver side = Given.lines(0, -1, -20);
        side.goal(0, -9);
        Check.dueBest("upper side alone", side, -180, 1, -20, 1, 20, 1);
        side.goal(1, -9);
        Check.dueBest("upper side alone, to the right", side, -160, 1, 20, 1, 20, 1);
    }

    private static void valueAtTheEdges() {
        HalfPlaneSolver far = Given.lines(-1, -1, -40);
        far.goal(9, 9);
        Check.dueBest("greatest value", far, 360, 1, 20, 1, 20, 1);
        far.goal(-9, -9);
        Check.dueBest("least value", far, -360, 1, 20, 1, 20, 1);
        far.goal(9, -9);
        Check.dueBest("value 0", far, 0, 1, 20, 1, 20, 1);
    }

    private static void bestPointAfterEmptiness() {
        HalfPlaneSolver s = Given.lines(3, 0, 2);
        s.goal(9, 1);
        Check.dueBest("before", s, 26, 1, 2, 3, 20, 1);
        s.add(0, 0, -1);
        Check.dueBest("while empty", s, 0, 0, 0, 0, 0, 0);
        s.remove(1);
        Check.dueBest("afterwards", s, 26, 1, 2, 3, 20, 1);
    }

    // "-1 if the region is empty"
    private static void tightOfEmptyRegions() {
        eachEmptyRegion("tight", s -> s.tight(), -1);
    }

    private static void tightWithoutLines() {
        HalfPlaneSolver s = new HalfPlaneSolver();
        for (int p = -1; p <= 1; p++) {
            for (int q = -1; q <= 1; q++) {
                s.goal(p, q);
                Check.due("no lines, goal " + p + " " + q, s.tight(), 0);
            }
        }
    }

    // "a line with a = b = 0 counts if c = 0"
    private static void tightWithLinesWithoutDirection() {
        Check.due("0 <= 0", Given.lines(0, 0, 0).tight(), 1);
        Check.due("0 <= 1", Given.lines(0, 0, 1).tight(), 0);
        Check.due("0 <= 99", Given.lines(0, 0, 99).tight(), 0);
        Check.due("0 <= -1", Given.lines(0, 0, -1).tight(), -1);
        Check.due("0 <= 0 and 0 <= -1", Given.lines(0, 0, 0, 0, 0, -1).tight(), -1);
        Check.due("0 <= 0 twice and 0 <= 1", Given.lines(0, 0, 0, 0, 0, 1, 0, 0, 0).tight(), 2);
        Check.due("0 <= 0 ten times", Given.same(10, 0, 0, 0).tight(), 10);
    }

    private static void tightWithTenLines() {
        Check.due("ten through one point", throughOnePoint().tight(), 10);
        HalfPlaneSolver s = Given.same(10, 1, 1, 5);
        Check.due("ten far from the best point", s.tight(), 0);
        s.goal(1, 1);
        Check.due("ten at the best point", s.tight(), 10);
        for (int line = 0; line < 9; line++) {
            s.shift(line, 1);
            Check.due("moved out up to " + line, s.tight(), 9 - line);
        }
    }

    // "How many lines of the list the best point lies on"
    private static void tightLeavesTheSquareOut() {
        Check.due("side x >= -20", Given.lines(-1, 0, 20).tight(), 1);
        Check.due("side y >= -20 twice", Given.lines(0, -1, 20, 0, -4, 80).tight(), 2);
        Check.due("the other sides", Given.lines(1, 0, 20, 0, 1, 20).tight(), 0);
        Check.due("through the corner", Given.lines(-1, -1, 40, 1, -1, 0, -1, 1, 0).tight(), 3);
    }

    private static void tightAtTheLeastDistance() {
        // x = 1/9 against 8x <= 1, and (1/9, 1/9) against lines one step beyond it.
        HalfPlaneSolver s = Given.lines(9, 0, 1, 0, 9, 1, 8, 0, 1, 9, 9, 2, 9, 9, 3, 9, 0, 2);
        s.goal(1, 1);
        Check.dueBest("(1/9, 1/9)", s, 2, 9, 1, 9, 1, 9);
        Check.due("lines through (1/9, 1/9)", s.tight(), 3);
    }
}
