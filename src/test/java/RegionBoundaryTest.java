import java.util.Arrays;

/** The boundary cases that promises 15 to 18 name; each method stands for one sentence. */
public final class RegionBoundaryTest {
    private static final int[] WRONG_BOTTOMS = Given.outside(1, 50);
    private static final int[] WRONG_TOPS = Given.outside(-2000, 2000);

    public static void main(String[] args) {
        redundantRefuses();
        redundantRefusesInAnEmptyRegion();
        redundantOfEmptyRegions();
        redundantByTheLeastStep();
        redundantAtTheSquare();
        redundantAmongTen();
        redundantWithoutDirection();
        cornersOfEmptyRegions();
        cornersWithoutLines();
        cornersAreTheMost();
        cornersCountPointsOnce();
        cornersOfLinesWithoutDirection();
        cornersOfParallelBorders();
        cornersOutsideDoNotCount();
        cornersOnAnEdgeCount();
        insideRefusesD();
        insideRefusesX();
        insideRefusesY();
        insideTestsInOrder();
        insideTakesTheEdges();
        insideOfEmptyRegions();
        insideByTheLeastStep();
        gridOfEmptyRegions();
        gridWithoutLines();
        gridWithoutWholePoints();
        gridAtTheBorders();
        gridWithTenLines();
        Check.end();
    }

    // "-1 if line is not good"
    private static void redundantRefuses() {
        for (int count : new int[] {0, 1, 10}) {
            HalfPlaneSolver s = Given.same(count, 1, 0, 5);
            for (int number : new int[] {-1, count, -4, 10, 14, Given.LEAST, Given.GREATEST}) {
                Check.due("redundant(" + number + ") of " + count, s.redundant(number), -1);
            }
        }
    }

    private static void redundantRefusesInAnEmptyRegion() {
        for (int[] lines : Given.emptyRegions()) {
            HalfPlaneSolver s = Given.lines(lines);
            String what = " of " + Arrays.toString(lines);
            Check.due("redundant after the last" + what, s.redundant(lines.length / 3), -1);
            Check.due("redundant(-1)" + what, s.redundant(-1), -1);
        }
    }

    // "1 if the region would be just the same without the line, otherwise 0"
    private static void redundantOfEmptyRegions() {
        for (int[] lines : Given.emptyRegions()) {
            for (int line = 0; line < lines.length / 3; line++) {
                HalfPlaneSolver without = Given.lines(lines);
                without.remove(line);
                // An empty region stays the same just when it stays empty.
                Check.due("redundant(" + line + ") of " + Arrays.toString(lines),
                        Given.lines(lines).redundant(line), without.empty());
            }
        }
        HalfPlaneSolver twice = Given.lines(0, 0, -1, 1, 1, 5, 0, 0, -99);
        for (int line = 0; line < 3; line++) {
            Check.due("empty twice over: line " + line, twice.redundant(line), 1);
        }
        HalfPlaneSolver once = Given.lines(0, 0, -1, 1, 1, 5);
        Check.due("empty by this line alone", once.redundant(0), 0);
        Check.due("empty all the same", once.redundant(1), 1);
    }

    private static void redundantByTheLeastStep() {
        for (int a = 1; a <= 9; a++) {
            for (int b = 1; b <= 9; b++) {
                HalfPlaneSolver s = Given.lines(1, 0, 3, 0, 1, 2, a, b, 3 * a + 2 * b);
                String what = a + "x + " + b + "y";
                Check.due(what + " through the corner", s.redundant(2), 1);
                s.shift(2, -1);
                Check.due(what + " cuts the corner off", s.redundant(2), 0);
                s.shift(2, 2);
                Check.due(what + " passes the corner by", s.redundant(2), 1);
            }
        }
    }

    private static void redundantAtTheSquare() {
        int[][] sides = {{1, 0}, {-1, 0}, {0, 1}, {0, -1}};
        for (int[] side : sides) {
            HalfPlaneSolver s = Given.lines(side[0], side[1], 20);
            String what = "side " + Arrays.toString(side);
            Check.due(what, s.redundant(0), 1);
            s.shift(0, -1);
            Check.due(what + ", one in", s.redundant(0), 0);
            s.shift(0, 2);
            Check.due(what + ", one out", s.redundant(0), 1);
            s.shift(0, 78);
            Check.due(what + ", at 99", s.redundant(0), 1);
            s.shift(0, -198);
            Check.due(what + ", at -99", s.redundant(0), 0);
        }
    }

    private static void redundantAmongTen() {
        HalfPlaneSolver alike = Given.same(10, 1, 2, 3);
        HalfPlaneSolver parted = Given.same(10, 1, 2, 3);
        parted.shift(9, -1);
        for (int line = 0; line < 10; line++) {
            Check.due("one of ten alike: " + line, alike.redundant(line), 1);
            Check.due("one of ten, the last less: " + line, parted.redundant(line), line < 9 ? 1 : 0);
        }
        HalfPlaneSolver needed = fourteenSides();
        for (int line = 0; line < 10; line++) {
            Check.due("each of ten needed: " + line, needed.redundant(line), 0);
        }
    }

    private static HalfPlaneSolver fourteenSides() {
        return Given.lines(1, 1, 35, 1, -1, 35, -1, 1, 35, -1, -1, 35, 2, 1, 54, 2, -1, 54,
                -2, 1, 54, -2, -1, 54, 1, 2, 54, 1, -2, 54);
    }

    private static void redundantWithoutDirection() {
        Check.due("0 <= 0", Given.lines(0, 0, 0).redundant(0), 1);
        Check.due("0 <= 99", Given.lines(0, 0, 99).redundant(0), 1);
        Check.due("0 <= -1", Given.lines(0, 0, -1).redundant(0), 0);
        Check.due("0 <= -1 twice", Given.lines(0, 0, -1, 0, 0, -1).redundant(0), 1);
        Check.due("x <= 5 beside 0 <= 0", Given.lines(1, 0, 5, 0, 0, 0).redundant(0), 0);
    }

    // "How many points of the region there are in which two borders that are not parallel meet"
    private static void cornersOfEmptyRegions() {
        for (int[] lines : Given.emptyRegions()) {
            Check.due("corners of " + Arrays.toString(lines), Given.lines(lines).corners(), 0);
        }
    }

    private static void cornersWithoutLines() {
        Check.due("corners without lines", new HalfPlaneSolver().corners(), 4);
    }

    private static void cornersAreTheMost() {
        Check.due("ten lines and four sides", fourteenSides().corners(), 14);
    }

    private static void cornersCountPointsOnce() {
        HalfPlaneSolver s = new HalfPlaneSolver();
        for (int b = 0; b < 10; b++) {
            s.add(9, b, 0);
        }
        // The corners are the origin, (0, -20), (-20, -20) and (-20, 20).
        Check.due("ten lines through the origin", s.corners(), 4);
        Check.due("ten alike", Given.same(10, 1, 1, 0).corners(), 3);
        Check.due("ten alike with a side", Given.same(10, 1, 0, 20).corners(), 4);
        Check.due("ten through a corner of the square", Given.same(10, 1, 1, 40).corners(), 4);
        Check.due("two corners on one upright", Given.lines(1, 0, 0).corners(), 4);
        Check.due("one point", Given.lines(1, 0, 0, -1, 0, 0, 0, 1, 0, 0, -1, 0, 1, 1, 0).corners(), 1);
    }

    // "with a or b not 0"
    private static void cornersOfLinesWithoutDirection() {
        Check.due("0 <= 0", Given.lines(0, 0, 0).corners(), 4);
        Check.due("0 <= 0 ten times", Given.same(10, 0, 0, 0).corners(), 4);
        Check.due("0 <= 99 and x + y <= 0", Given.lines(0, 0, 99, 1, 1, 0).corners(), 3);
        Check.due("0 <= -1 and x + y <= 0", Given.lines(0, 0, -1, 1, 1, 0).corners(), 0);
    }

    private static void cornersOfParallelBorders() {
        Check.due("parallel, apart", Given.lines(1, 0, 5, -1, 0, 5).corners(), 4);
        Check.due("parallel, on one another", Given.lines(2, 2, 0, 3, 3, 0, -5, -5, 0).corners(), 2);
        Check.due("parallel to the sides", Given.lines(1, 0, 20, 0, 1, 20).corners(), 4);
        Check.due("one beside the other", Given.lines(9, 9, 1, 8, 8, 1).corners(), 3 + 2);
    }

    private static void cornersOutsideDoNotCount() {
        Check.due("two meet outside the square", Given.lines(1, 9, 99, -1, 9, 99).corners(), 4 + 1);
        Check.due("two meet beyond a third", Given.lines(1, 1, 0, -1, 1, 0, 0, 1, -1).corners(), 4);
        Check.due("a line outside the square", Given.lines(1, 1, 41).corners(), 4);
    }

    private static void cornersOnAnEdgeCount() {
        // The line touches the region in one point of an edge's end, or lies along a whole edge.
        Check.due("through an end", Given.lines(0, 1, 0, 1, 1, 20).corners(), 4);
        Check.due("along an edge", Given.lines(0, 1, 0, 0, 7, 0).corners(), 4);
        Check.due("only a side", Given.lines(0, -1, -20).corners(), 2);
        Check.due("only a part of a side", Given.lines(0, -1, -20, 7, 0, 1).corners(), 2);
    }

    // "-1 if d is not in 1 .. 50"
    private static void insideRefusesD() {
        for (int d : WRONG_BOTTOMS) {
            Check.due("d " + d, new HalfPlaneSolver().inside(0, 0, d), -1);
        }
        for (int d = 1; d <= 50; d++) {
            Check.due("d " + d, new HalfPlaneSolver().inside(0, 0, d), 1);
        }
    }

    // "-2 if x or y is not in -2000 .. 2000"
    private static void insideRefusesX() {
        for (int x : WRONG_TOPS) {
            Check.due("x " + x + " over 1", new HalfPlaneSolver().inside(x, 0, 1), -2);
            Check.due("x " + x + " over 50", new HalfPlaneSolver().inside(x, 0, 50), -2);
        }
    }

    private static void insideRefusesY() {
        for (int y : WRONG_TOPS) {
            Check.due("y " + y + " over 1", new HalfPlaneSolver().inside(0, y, 1), -2);
            Check.due("y " + y + " over 50", new HalfPlaneSolver().inside(0, y, 50), -2);
        }
    }

    // "In every method the tests are made in the order named"
    private static void insideTestsInOrder() {
        for (int[] lines : new int[][] {{}, {0, 0, -1}}) {
            int answer = lines.length == 0 ? 1 : 0;
            for (int d : new int[] {25, 0, 51, Given.LEAST, Given.GREATEST}) {
                for (int x : new int[] {0, 2001, -2001, Given.LEAST, Given.GREATEST}) {
                    for (int y : new int[] {0, 2001, -2001, Given.LEAST, Given.GREATEST}) {
                        int want = d != 25 ? -1 : x != 0 || y != 0 ? -2 : answer;
                        Check.due("inside(" + x + ", " + y + ", " + d + ")",
                                Given.lines(lines).inside(x, y, d), want);
                    }
                }
            }
        }
    }

    private static void insideTakesTheEdges() {
        // A point's x and y may be taken and still lie outside the square.
        for (int d : new int[] {1, 49, 50}) {
            HalfPlaneSolver s = new HalfPlaneSolver();
            Check.due("x 2000 over " + d, s.inside(2000, 0, d), 0);
            Check.due("x -2000 over " + d, s.inside(-2000, 0, d), 0);
            Check.due("y 2000 over " + d, s.inside(0, 2000, d), 0);
            Check.due("y -2000 over " + d, s.inside(0, -2000, d), 0);
            Check.due("both over " + d, s.inside(2000, -2000, d), 0);
        }
        HalfPlaneSolver s = Given.lines(9, 9, 99, -9, -9, -99, -9, 9, 99);
        Check.due("far out on 9x + 9y = 99", s.inside(2000, -1450, 50), 0);
    }

    private static void insideOfEmptyRegions() {
        for (int[] lines : Given.emptyRegions()) {
            HalfPlaneSolver s = Given.lines(lines);
            for (int x = -20; x <= 20; x += 4) {
                for (int y = -20; y <= 20; y += 4) {
                    Check.due("inside of " + Arrays.toString(lines), s.inside(x, y, 1), 0);
                }
            }
        }
    }

    private static void insideByTheLeastStep() {
        for (int d = 1; d <= 50; d++) {
            HalfPlaneSolver s = Given.lines(9, 8, 7);
            // At (x, -x) the line's 9x + 8y is x, so the border is met in (7, -7).
            Check.due("on the border over " + d, s.inside(7 * d, -7 * d, d), 1);
            Check.due("within it over " + d, s.inside(7 * d - 1, -7 * d + 1, d), 1);
            Check.due("beyond it over " + d, s.inside(7 * d + 1, -7 * d - 1, d), 0);
        }
    }

    // "How many of the points of the region have whole numbers x and y."
    private static void gridOfEmptyRegions() {
        for (int[] lines : Given.emptyRegions()) {
            Check.due("grid of " + Arrays.toString(lines), Given.lines(lines).grid(), 0);
        }
    }

    private static void gridWithoutLines() {
        Check.due("grid without lines", new HalfPlaneSolver().grid(), 41 * 41);
    }

    private static void gridWithoutWholePoints() {
        Check.due("an upright between", Given.lines(2, 0, 1, -2, 0, -1).grid(), 0);
        Check.due("a level one between", Given.lines(0, 2, 1, 0, -2, -1).grid(), 0);
        Check.due("a small square between",
                Given.lines(9, 0, 8, -9, 0, -1, 0, 9, 8, 0, -9, -1).grid(), 0);
        Check.due("a sloped one between", Given.lines(2, 4, 1, -2, -4, -1).grid(), 0);
    }

    private static void gridAtTheBorders() {
        Check.due("left side alone", Given.lines(1, 0, -20).grid(), 41);
        Check.due("right side alone", Given.lines(-1, 0, -20).grid(), 41);
        Check.due("lower side alone", Given.lines(0, 1, -20).grid(), 41);
        Check.due("upper side alone", Given.lines(0, -1, -20).grid(), 41);
        Check.due("lower left corner alone", Given.lines(1, 1, -40).grid(), 1);
        Check.due("upper right corner alone", Given.lines(-1, -1, -40).grid(), 1);
        Check.due("upper left corner alone", Given.lines(1, -1, -40).grid(), 1);
        Check.due("lower right corner alone", Given.lines(-1, 1, -40).grid(), 1);
        Check.due("all but a corner", Given.lines(1, 1, 39).grid(), 1680);
        Check.due("with that corner", Given.lines(1, 1, 40).grid(), 1681);
        Check.due("a diagonal", Given.lines(1, -1, 0, -1, 1, 0).grid(), 41);
    }

    private static void gridWithTenLines() {
        for (int line = 0; line < 10; line++) {
            HalfPlaneSolver s = Given.same(10, 0, 1, 7);
            s.shift(line, -1);
            Check.due("ten lines, the least is " + line, s.grid(), 27 * 41);
        }
    }
}
