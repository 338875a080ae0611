/** The boundary cases that the document's Terms name; each method stands for one sentence. */
public final class TermsBoundaryTest {
    public static void main(String[] args) {
        lineWithoutDirectionAllowsAllPoints();
        lineWithoutDirectionAllowsNone();
        lineWithoutDirectionAtTheEdge();
        lineWithOneFactor();
        lineAllowsItsBorder();
        lineAllowsItsBorderAtTheEdges();
        listHoldsTenLines();
        squareHasItsBorder();
        squareHasItsCorners();
        goalIsZeroAtFirst();
        bestPointOfTheSquare();
        bestPointHasLeastX();
        bestPointHasLeastYAmongThose();
        bestPointAmongNeighbours();
        fractionsOfXInLowestTerms();
        fractionsOfYInLowestTerms();
        wholeNumbersHaveBottomOne();
        greatestBottoms();
        numberIsGoodIfThereIsSuchALine();
        answersHoldToTheLastCall();
        Check.end();
    }

    // "a and b may both be 0: then it allows all points if c >= 0 .."
    private static void lineWithoutDirectionAllowsAllPoints() {
        for (int c = 0; c <= 99; c++) {
            HalfPlaneSolver s = Given.lines(0, 0, c);
            String what = "0 <= " + c;
            Check.due(what + ": empty", s.empty(), 0);
            Check.due(what + ": grid", s.grid(), 1681);
            Check.due(what + ": corners", s.corners(), 4);
            Check.due(what + ": inside(1, 1, 50)", s.inside(1, 1, 50), 1);
            Check.due(what + ": redundant", s.redundant(0), 1);
            Check.due(what + ": tight", s.tight(), c == 0 ? 1 : 0);
            s.goal(9, -9);
            Check.dueBest(what, s, 360, 1, 20, 1, -20, 1);
        }
    }

    // ".. and none otherwise"
    private static void lineWithoutDirectionAllowsNone() {
        for (int c = -99; c <= -1; c++) {
            HalfPlaneSolver s = Given.lines(0, 0, c);
            String what = "0 <= " + c;
            Check.due(what + ": empty", s.empty(), 1);
            Check.due(what + ": grid", s.grid(), 0);
            Check.due(what + ": corners", s.corners(), 0);
            Check.due(what + ": inside(0, 0, 1)", s.inside(0, 0, 1), 0);
            Check.due(what + ": inside(1, 1, 50)", s.inside(1, 1, 50), 0);
            Check.due(what + ": redundant", s.redundant(0), 0);
            Check.due(what + ": tight", s.tight(), -1);
            Check.dueBest(what, s, 0, 0, 0, 0, 0, 0);
        }
    }

    private static void lineWithoutDirectionAtTheEdge() {
        HalfPlaneSolver s = Given.lines(0, 0, 1);
        Check.due("from 0 <= 1 to 0 <= 0", s.shift(0, -1), 0);
        Check.due("0 <= 0: empty", s.empty(), 0);
        Check.due("from 0 <= 0 to 0 <= -1", s.shift(0, -1), -1);
        Check.due("0 <= -1: empty", s.empty(), 1);
        Check.due("from 0 <= -1 to 0 <= 0", s.shift(0, 1), 0);
        Check.due("0 <= 0 again: empty", s.empty(), 0);
    }

    private static void lineWithOneFactor() {
        for (int factor = 1; factor <= 9; factor++) {
            String what = "factor " + factor;
            Check.due(what + ", x <= 0", Given.lines(factor, 0, 0).grid(), 21 * 41);
            Check.due(what + ", x >= 0", Given.lines(-factor, 0, 0).grid(), 21 * 41);
            Check.due(what + ", y <= 0", Given.lines(0, factor, 0).grid(), 21 * 41);
            Check.due(what + ", y >= 0", Given.lines(0, -factor, 0).grid(), 21 * 41);
            Check.due(what + ", left of it", Given.lines(factor, 0, 0).inside(-1, 1, 50), 1);
            Check.due(what + ", right of it", Given.lines(factor, 0, 0).inside(1, -1, 50), 0);
            Check.due(what + ", below it", Given.lines(0, factor, 0).inside(1, -1, 50), 1);
            Check.due(what + ", above it", Given.lines(0, factor, 0).inside(-1, 1, 50), 0);
        }
    }

    // "allows the points (x, y) of the plane with a*x + b*y <= c"
    private static void lineAllowsItsBorder() {
        for (int a = -9; a <= 9; a++) {
            for (int b = -9; b <= 9; b++) {
                int c = 2 * a - 3 * b;
                HalfPlaneSolver s = Given.lines(a, b, c);
                String what = a + "x + " + b + "y <= " + c;
                Check.due(what + " on the border", s.inside(2, -3, 1), 1);
                Check.due(what + " on the border, in fiftieths", s.inside(100, -150, 50), 1);
                s.shift(0, -1);
                Check.due(what + " - 1", s.inside(2, -3, 1), 0);
                s.shift(0, 2);
                Check.due(what + " + 1", s.inside(2, -3, 1), 1);
            }
        }
    }

    private static void lineAllowsItsBorderAtTheEdges() {
        Check.due("9x + 9y <= 99 at (11/2, 11/2)", Given.lines(9, 9, 99).inside(11, 11, 2), 1);
        Check.due("9x + 9y <= 98 at (11/2, 11/2)", Given.lines(9, 9, 98).inside(11, 11, 2), 0);
        Check.due("-9x - 9y <= -99 at (11/2, 11/2)", Given.lines(-9, -9, -99).inside(11, 11, 2), 1);
        Check.due("-9x - 9y <= -99 at (5, 5)", Given.lines(-9, -9, -99).inside(5, 5, 1), 0);
        Check.due("9x - 9y <= -99 at (-20, -9)", Given.lines(9, -9, -99).inside(-20, -9, 1), 1);
        Check.due("9x - 9y <= -99 at (-20, -10)", Given.lines(9, -9, -99).inside(-20, -10, 1), 0);
        Check.due("9x + 9y <= 99 at the far corner", Given.lines(9, 9, 99).inside(20, 20, 1), 0);
        Check.due("9x + 9y <= 99 at the near corner", Given.lines(9, 9, 99).inside(-20, -20, 1), 1);
    }

    // "There is a list of at most 10 lines, numbered 0, 1, 2, .. in their order."
    private static void listHoldsTenLines() {
        HalfPlaneSolver s = new HalfPlaneSolver();
        for (int line = 0; line < 10; line++) {
            Check.due("line " + line, s.add(1, 0, 19 - line), line);
            Check.due("right end with lines to " + line, s.grid(), (40 - line) * 41);
        }
        Check.due("an eleventh", s.add(1, 0, 0), -3);
        Check.due("right end with all ten", s.grid(), 31 * 41);
        for (int line = 0; line < 10; line++) {
            Check.due("c of line " + line, s.shift(line, 0), 19 - line);
        }
    }

    // "-20 <= x <= 20 and -20 <= y <= 20"
    private static void squareHasItsBorder() {
        for (int d = 1; d <= 50; d++) {
            HalfPlaneSolver s = new HalfPlaneSolver();
            int edge = 20 * d;
            Check.due("x = 20 over " + d, s.inside(edge, 0, d), 1);
            Check.due("x > 20 over " + d, s.inside(edge + 1, 0, d), 0);
            Check.due("x = -20 over " + d, s.inside(-edge, 0, d), 1);
            Check.due("x < -20 over " + d, s.inside(-edge - 1, 0, d), 0);
            Check.due("y = 20 over " + d, s.inside(0, edge, d), 1);
            Check.due("y > 20 over " + d, s.inside(0, edge + 1, d), 0);
            Check.due("y = -20 over " + d, s.inside(0, -edge, d), 1);
            Check.due("y < -20 over " + d, s.inside(0, -edge - 1, d), 0);
        }
    }

    private static void squareHasItsCorners() {
        for (int x = -1; x <= 1; x += 2) {
            for (int y = -1; y <= 1; y += 2) {
                String corner = "(" + 20 * x + ", " + 20 * y + ")";
                HalfPlaneSolver s = Given.lines(-x, -y, -40);
                Check.due(corner + ": inside", s.inside(20 * x, 20 * y, 1), 1);
                Check.due(corner + ": empty", s.empty(), 0);
                Check.due(corner + ": corners", s.corners(), 1);
                Check.due(corner + ": grid", s.grid(), 1);
                Check.dueBest(corner, s, 0, 1, 20 * x, 1, 20 * y, 1);
                s.shift(0, -1);
                Check.due("beyond " + corner + ": empty", s.empty(), 1);
                Check.due("beyond " + corner + ": grid", s.grid(), 0);
            }
        }
    }

    // "THE GOAL is .. (0, 0) at first."
    private static void goalIsZeroAtFirst() {
        Check.dueBest("new object", new HalfPlaneSolver(), 0, 1, -20, 1, -20, 1);
        HalfPlaneSolver s = Given.lines(-2, 0, -3, 0, -3, 7);
        Check.dueBest("first goal with lines", s, 0, 1, 3, 2, -7, 3);
        s.goal(1, 1);
        Check.dueBest("goal (1, 1)", s, 40, 1, 20, 1, 20, 1);
        s.goal(0, 0);
        Check.dueBest("goal (0, 0) again", s, 0, 1, 3, 2, -7, 3);
    }

    // "among its points of greatest value, the one with the least x, and among those .. least y"
    private static void bestPointOfTheSquare() {
        for (int p = -9; p <= 9; p++) {
            for (int q = -9; q <= 9; q++) {
                HalfPlaneSolver s = new HalfPlaneSolver();
                Check.due("goal(" + p + ", " + q + ")", s.goal(p, q), 0);
                Check.dueBest("square, goal " + p + " " + q, s,
                        20 * (Math.abs(p) + Math.abs(q)), 1, p > 0 ? 20 : -20, 1, q > 0 ? 20 : -20, 1);
            }
        }
    }

    private static void bestPointHasLeastX() {
        for (int a = -9; a <= 9; a++) {
            for (int b = 1; b <= 9; b++) {
                HalfPlaneSolver upper = Given.lines(a, b, 0, 1, 0, 1, -1, 0, 1);
                upper.goal(a, b);
                Check.due("upper edge " + a + " " + b + ": value", upper.valueTop(), 0);
                Check.due("upper edge " + a + " " + b + ": x", upper.xTop(), -1);
                HalfPlaneSolver lower = Given.lines(1, 0, 1, -1, 0, 1, a, -b, 0);
                lower.goal(a, -b);
                Check.due("lower edge " + a + " " + b + ": value", lower.valueTop(), 0);
                Check.due("lower edge " + a + " " + b + ": x", lower.xTop(), -1);
            }
        }
    }

    private static void bestPointHasLeastYAmongThose() {
        for (int a = 1; a <= 9; a++) {
            HalfPlaneSolver right = Given.lines(0, 1, 5, a, 0, 1, 0, -1, 7);
            right.goal(a, 0);
            Check.dueBest("right edge " + a, right, 1, 1, 1, a, -7, 1);
            HalfPlaneSolver left = Given.lines(0, -1, 7, -a, 0, 1, 0, 1, 5);
            left.goal(-a, 0);
            Check.dueBest("left edge " + a, left, 1, 1, -1, a, -7, 1);
            left.goal(0, 0);
            Check.dueBest("left edge " + a + ", goal (0, 0)", left, 0, 1, -1, a, -7, 1);
        }
    }

    // 1/9 and 1/8, -1/8 and -1/9 differ by as little as two such fractions can; either comes first.
    private static void bestPointAmongNeighbours() {
        int[][] ends = {{9, 1, 8, 1}, {8, -1, 9, -1}};
        for (int[] e : ends) {
            HalfPlaneSolver level = Given.lines(e[2], 0, e[3], -e[0], 0, -e[1], 0, 1, 3);
            level.goal(0, 1);
            Check.dueBest("level, " + e[1] + "/" + e[0], level, 3, 1, e[1], e[0], 3, 1);
            level = Given.lines(-e[0], 0, -e[1], 0, 1, 3, e[2], 0, e[3]);
            level.goal(0, 1);
            Check.dueBest("level, " + e[1] + "/" + e[0] + " first", level, 3, 1, e[1], e[0], 3, 1);
            HalfPlaneSolver upright = Given.lines(0, e[2], e[3], 0, -e[0], -e[1], 1, 0, 3);
            upright.goal(1, 0);
            Check.dueBest("upright, " + e[1] + "/" + e[0], upright, 3, 1, 3, 1, e[1], e[0]);
            upright = Given.lines(0, -e[0], -e[1], 1, 0, 3, 0, e[2], e[3]);
            upright.goal(1, 0);
            Check.dueBest("upright, " + e[1] + "/" + e[0] + " first", upright, 3, 1, 3, 1, e[1], e[0]);
        }
    }

    // "in lowest terms with a positive denominator (1 for whole numbers)"
    private static void fractionsOfXInLowestTerms() {
        for (int a = 1; a <= 9; a++) {
            for (int c = Math.max(-99, -20 * a); c <= Math.min(99, 20 * a); c++) {
                int shared = sharedDivisor(c, a);
                HalfPlaneSolver right = Given.lines(a, 0, c);
                right.goal(1, 0);
                Check.dueBest("x <= " + c + "/" + a, right,
                        c / shared, a / shared, c / shared, a / shared, -20, 1);
                HalfPlaneSolver left = Given.lines(-a, 0, -c);
                left.goal(-1, 0);
                Check.dueBest("x >= " + c + "/" + a, left,
                        -c / shared, a / shared, c / shared, a / shared, -20, 1);
            }
        }
    }

    private static void fractionsOfYInLowestTerms() {
        for (int b = 1; b <= 9; b++) {
            for (int c = Math.max(-99, -20 * b); c <= Math.min(99, 20 * b); c++) {
                int shared = sharedDivisor(c, b);
                HalfPlaneSolver upper = Given.lines(0, b, c);
                upper.goal(0, 1);
                Check.dueBest("y <= " + c + "/" + b, upper,
                        c / shared, b / shared, -20, 1, c / shared, b / shared);
                HalfPlaneSolver lower = Given.lines(0, -b, -c);
                lower.goal(0, -1);
                Check.dueBest("y >= " + c + "/" + b, lower,
                        -c / shared, b / shared, -20, 1, c / shared, b / shared);
            }
        }
    }

    private static void wholeNumbersHaveBottomOne() {
        // The borders meet over the bottoms 162, 72 and 90 before these are lowered.
        Check.dueBest("the origin over 162", goal(Given.lines(9, 9, 0, -9, 9, 0), 0, 9),
                0, 1, 0, 1, 0, 1);
        Check.dueBest("(1, 3) over 72", goal(Given.lines(6, 6, 24, -6, 6, 12), 1, 9),
                28, 1, 1, 1, 3, 1);
        Check.dueBest("(-1, -3) over 90", goal(Given.lines(9, 3, -18, -3, 9, -24), 2, 9),
                -29, 1, -1, 1, -3, 1);
        // The value may be whole where x and y are not, and x where y is not.
        Check.dueBest("whole value", goal(Given.lines(2, 0, 1, 0, 2, 1), 1, 1), 1, 1, 1, 2, 1, 2);
        Check.dueBest("whole value below the origin", goal(Given.lines(2, 0, 1, 0, -2, 1), 1, -1), 1, 1, 1, 2, -1, 2);
        Check.dueBest("whole x alone", goal(Given.lines(1, 0, 3, 0, 7, 5), 1, 1), 26, 7, 3, 1, 5, 7);
        Check.dueBest("whole y alone", goal(Given.lines(7, 0, -5, 0, 1, 3), 1, 1), 16, 7, -5, 7, 3, 1);
    }

    private static void greatestBottoms() {
        // Of two lines' bottoms 162 always falls to 18 or less, so that 153 is the greatest left.
        Check.dueBest("y over 153", goal(Given.lines(9, 9, 1, -8, 9, 0), 0, 1),
                8, 153, 1, 17, 8, 153);
        Check.dueBest("x over 153", goal(Given.lines(9, 9, 1, 9, -8, 0), 1, 0),
                8, 153, 8, 153, 1, 17);
        Check.dueBest("y below 0 over 153", goal(Given.lines(-9, -9, 1, 8, -9, 0), 0, -1),
                8, 153, -1, 17, -8, 153);
        Check.dueBest("value over 153", goal(Given.lines(9, 9, 98, -8, 9, 99), 1, 8),
                13391, 153, -1, 17, 1675, 153);
    }

    private static HalfPlaneSolver goal(HalfPlaneSolver s, int p, int q) {
        s.goal(p, q);
        return s;
    }

    private static int sharedDivisor(int top, int bottom) {
        int divisor = bottom;
        while (top % divisor != 0 || bottom % divisor != 0) {
            divisor--;
        }
        return divisor;
    }

    // "a line's number is good if there is such a line"
    private static void numberIsGoodIfThereIsSuchALine() {
        for (int count = 0; count <= 10; count++) {
            for (int number = -5; number <= 15; number++) {
                isGood(count, number);
            }
            for (int number : Given.outside(0, count - 1)) {
                isGood(count, number);
            }
        }
    }

    private static void isGood(int count, int number) {
        boolean good = number >= 0 && number < count;
        String what = "(" + number + ") of " + count;
        Check.due("remove" + what, Given.same(count, 1, 2, 3).remove(number), good ? count - 1 : -1);
        Check.due("shift" + what, Given.same(count, 1, 2, 3).shift(number, 4), good ? 7 : -1);
        Check.due("redundant" + what, Given.same(count, 1, 2, 3).redundant(number),
                !good ? -1 : count == 1 ? 0 : 1);
    }

    // "An object is used for at most 512 calls after it has been made"
    private static void answersHoldToTheLastCall() {
        HalfPlaneSolver s = new HalfPlaneSolver();
        s.goal(1, 0);
        // One call is made already, and 73 times 7 are the other 511.
        for (int calls = 1; calls < 512; calls += 7) {
            int c = calls % 20;
            Check.due("add after " + calls, s.add(1, 0, c), 0);
            Check.due("shift after " + calls, s.shift(0, -1), c - 1);
            Check.due("xTop after " + calls, s.xTop(), c - 1);
            Check.due("corners after " + calls, s.corners(), 4);
            Check.due("grid after " + calls, s.grid(), (20 + c) * 41);
            Check.due("remove after " + calls, s.remove(0), 0);
            Check.due("grid without lines after " + calls, s.grid(), 41 * 41);
        }
    }
}
