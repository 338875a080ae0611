/** Promises 7 to 14 in ordinary use: empty, the value's, x's and y's fractions, tight. */
public final class BestPointTest {
    public static void main(String[] args) {
        emptyByContradiction();
        emptyByTheSquare();
        emptyByALineWithoutDirection();
        answersOfAnEmptyRegion();
        smallRegionsAreNotEmpty();
        tiesGoToLeastXThenLeastY();
        fractionsAreInLowestTerms();
        tightCountsLinesOfTheListAlone();
        Check.end();
    }

    private static void emptyByContradiction() {
        Check.due("strip of width 0", Given.lines(7, -3, 5, -7, 3, -5).empty(), 0);
        Check.due("strip of width below 0", Given.lines(7, -3, 5, -7, 3, -6).empty(), 1);
        Check.due("triangle that closes", Given.lines(-1, 0, 0, 0, -1, 0, 1, 1, 0).empty(), 0);
        Check.due("triangle turned out", Given.lines(-1, 0, 0, 0, -1, 0, 1, 1, -1).empty(), 1);
        // The strips x = 1/7 and y = 1/9 meet in one point, whose 7x + 9y is just 2.
        Check.due("a point", Given.lines(7, 0, 1, -7, 0, -1, 0, 9, 1, 0, -9, -1, 7, 9, 2).empty(), 0);
        Check.due("no point", Given.lines(7, 0, 1, -7, 0, -1, 0, 9, 1, 0, -9, -1, 7, 9, 1).empty(), 1);
    }

    private static void emptyByTheSquare() {
        Check.due("x <= -20", Given.lines(1, 0, -20).empty(), 0);
        Check.due("x <= -21", Given.lines(1, 0, -21).empty(), 1);
        Check.due("x >= 20", Given.lines(-1, 0, -20).empty(), 0);
        Check.due("x >= 21", Given.lines(-1, 0, -21).empty(), 1);
        Check.due("y <= -20", Given.lines(0, 1, -20).empty(), 0);
        Check.due("y <= -21", Given.lines(0, 1, -21).empty(), 1);
        Check.due("y >= 20", Given.lines(0, -1, -20).empty(), 0);
        Check.due("y >= 21", Given.lines(0, -1, -21).empty(), 1);
        Check.due("x + y <= -40", Given.lines(1, 1, -40).empty(), 0);
        Check.due("x + y <= -41", Given.lines(1, 1, -41).empty(), 1);
    }

    private static void emptyByALineWithoutDirection() {
        Check.due("0 <= -1", Given.lines(0, 0, -1).empty(), 1);
        Check.due("0 <= -99", Given.lines(0, 0, -99).empty(), 1);
        Check.due("0 <= 0", Given.lines(0, 0, 0).empty(), 0);
        Check.due("0 <= 1", Given.lines(0, 0, 1).empty(), 0);
    }

    private static void answersOfAnEmptyRegion() {
        HalfPlaneSolver s = Given.lines(1, 0, -1, -1, 0, -1);
        for (int p = -1; p <= 1; p++) {
            s.goal(p, 1);
            Check.dueBest("empty region", s, 0, 0, 0, 0, 0, 0);
            Check.due("empty region: tight", s.tight(), -1);
        }
        s.shift(1, 2);
        Check.due("mended region: empty", s.empty(), 0);
        Check.dueBest("mended region", s, 19, 1, -1, 1, 20, 1);
    }

    private static void smallRegionsAreNotEmpty() {
        HalfPlaneSolver s = Given.lines(7, 0, 1, -7, 0, -1, 0, 9, 1, 0, -9, -1);
        Check.dueBest("point, goal (0, 0)", s, 0, 1, 1, 7, 1, 9);
        s.goal(7, 9);
        Check.dueBest("point, goal (7, 9)", s, 2, 1, 1, 7, 1, 9);
        s.goal(1, -1);
        Check.dueBest("point, goal (1, -1)", s, 2, 63, 1, 7, 1, 9);
        Check.due("point: tight", s.tight(), 4);
        HalfPlaneSolver corner = Given.lines(1, 1, -40);
        corner.goal(9, 9);
        Check.dueBest("corner of the square", corner, -360, 1, -20, 1, -20, 1);
        Check.due("corner of the square: tight", corner.tight(), 1);
    }

    private static void tiesGoToLeastXThenLeastY() {
        HalfPlaneSolver s = Given.lines(2, 3, 12, -2, -3, 12, 3, -2, 12, -3, 2, 12);
        s.goal(0, 0);
        Check.dueBest("goal (0, 0)", s, 0, 1, -60, 13, -12, 13);
        s.goal(2, 3);
        Check.dueBest("goal along a falling edge", s, 12, 1, -12, 13, 60, 13);
        s.goal(-3, 2);
        Check.dueBest("goal along a rising edge", s, 12, 1, -60, 13, -12, 13);
        HalfPlaneSolver square = new HalfPlaneSolver();
        square.goal(1, 0);
        Check.dueBest("right side", square, 20, 1, 20, 1, -20, 1);
        square.goal(-1, 0);
        Check.dueBest("left side", square, 20, 1, -20, 1, -20, 1);
        square.goal(0, 1);
        Check.dueBest("upper side", square, 20, 1, -20, 1, 20, 1);
        square.goal(0, -1);
        Check.dueBest("lower side", square, 20, 1, -20, 1, -20, 1);
        HalfPlaneSolver upright = Given.lines(3, 0, 7, -3, 0, -7, 0, -5, 8);
        upright.goal(5, 0);
        Check.dueBest("upright segment", upright, 35, 3, 7, 3, -8, 5);
        upright.add(0, 7, 9);
        upright.goal(-9, 0);
        Check.dueBest("upright segment between fractions", upright, -21, 1, 7, 3, -8, 5);
        upright.remove(3);
        upright.goal(5, 1);
        Check.dueBest("upright segment, up", upright, 95, 3, 7, 3, 20, 1);
    }

    private static void fractionsAreInLowestTerms() {
        HalfPlaneSolver s = Given.lines(6, 0, 4, 0, 4, -6);
        s.goal(3, 2);
        Check.dueBest("2/3 and -3/2", s, -1, 1, 2, 3, -3, 2);
        s.goal(9, 9);
        Check.dueBest("2/3 and -3/2, goal (9, 9)", s, -15, 2, 2, 3, -3, 2);
        HalfPlaneSolver zero = Given.lines(8, 2, 0, -2, 8, 0);
        zero.goal(3, 5);
        Check.dueBest("the origin", zero, 0, 1, 0, 1, 0, 1);
        // 9x + 8y = 99 and 8x - 9y = -99 meet over the bottom 145.
        HalfPlaneSolver wide = Given.lines(9, 8, 99, -8, 9, 99);
        wide.goal(1, 9);
        Check.dueBest("bottom 145", wide, 15246, 145, 99, 145, 1683, 145);
        // 9x + 9y = 89 and -9x + 9y = 88 meet over the bottom 162 before it is lowered.
        HalfPlaneSolver widest = Given.lines(9, 9, 89, -9, 9, 88);
        widest.goal(0, 9);
        Check.dueBest("bottom 162", widest, 177, 2, 1, 18, 59, 6);
    }

    private static void tightCountsLinesOfTheListAlone() {
        HalfPlaneSolver s = Given.lines(1, 0, 20, 0, 0, 0, 0, 0, 5, 1, 1, 99, 2, 2, 80);
        s.goal(1, 1);
        Check.due("lines over the square's corner", s.tight(), 3);
        s.add(1, 1, 40);
        Check.due("the same line twice", s.tight(), 4);
        s.goal(-1, -1);
        Check.due("the other corner", s.tight(), 1);
        s.remove(1);
        Check.due("without the line 0 <= 0", s.tight(), 0);
        HalfPlaneSolver ten = new HalfPlaneSolver();
        for (int b = 0; b < 10; b++) {
            ten.add(9, b, 0);
        }
        ten.goal(9, 1);
        Check.due("ten lines through the origin", ten.tight(), 10);
    }
}
