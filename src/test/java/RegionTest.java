/** Promises 15 to 18 in ordinary use: redundant, corners, inside, grid. */
public final class RegionTest {
    public static void main(String[] args) {
        redundantOrdinary();
        redundantEdges();
        cornersOrdinary();
        cornersEdges();
        insideOrdinary();
        gridOrdinary();
        Check.end();
    }

    private static void redundantOrdinary() {
        HalfPlaneSolver s = Given.lines(1, 1, 10, 1, 0, 5, 0, 1, 5);
        Check.due("touches a corner", s.redundant(0), 1);
        Check.due("cuts, x", s.redundant(1), 0);
        Check.due("cuts, y", s.redundant(2), 0);
        s.shift(0, -1);
        Check.due("cuts a corner off", s.redundant(0), 0);
        s.shift(0, 2);
        Check.due("passes the corner by", s.redundant(0), 1);
        Check.due("lines after redundant", s.lines(), 3);
    }

    private static void redundantEdges() {
        HalfPlaneSolver twins = Given.lines(1, 2, 3, 3, 6, 9);
        Check.due("one twin", twins.redundant(0), 1);
        Check.due("other twin", twins.redundant(1), 1);
        twins.remove(1);
        Check.due("twin alone", twins.redundant(0), 0);
        Check.due("the square's own side", Given.lines(1, 0, 20).redundant(0), 1);
        Check.due("just inside the side", Given.lines(7, 0, 99, 1, 0, 19).redundant(1), 1);
        Check.due("through the square's corner", Given.lines(1, 1, 40).redundant(0), 1);
        Check.due("cuts the square's corner", Given.lines(1, 1, 39).redundant(0), 0);
        Check.due("0 <= 0", Given.lines(0, 0, 0).redundant(0), 1);
        Check.due("0 <= -1", Given.lines(0, 0, -1).redundant(0), 0);
        HalfPlaneSolver two = Given.lines(0, 0, -1, 1, 0, -99, 1, 0, 5);
        Check.due("empty all the same, 0 <= -1", two.redundant(0), 1);
        Check.due("empty all the same, x <= -99", two.redundant(1), 1);
        Check.due("empty all the same, x <= 5", two.redundant(2), 1);
        HalfPlaneSolver clash = Given.lines(1, 0, 0, -1, 0, -1, 0, 1, 3);
        Check.due("one of two that clash", clash.redundant(0), 0);
        Check.due("other of two that clash", clash.redundant(1), 0);
        Check.due("beside two that clash", clash.redundant(2), 1);
        HalfPlaneSolver flat = Given.lines(1, -1, 0, -1, 1, 0, 1, 0, 20, 1, 0, 19);
        Check.due("makes it flat", flat.redundant(0), 0);
        Check.due("through the end of a segment", flat.redundant(2), 1);
        Check.due("shortens a segment", flat.redundant(3), 0);
    }

    private static void cornersOrdinary() {
        Check.due("square", Given.lines().corners(), 4);
        Check.due("corner cut off", Given.lines(1, 1, 39).corners(), 5);
        Check.due("half of it", Given.lines(1, 1, 0).corners(), 3);
        Check.due("triangle", Given.lines(-1, 0, 0, 0, -1, 0, 2, 3, 7).corners(), 3);
        Check.due("eight corners", Given.lines(1, 1, 30, 1, -1, 30, -1, 1, 30, -1, -1, 30).corners(), 8);
        Check.due("fourteen corners", Given.lines(1, 1, 35, 1, -1, 35, -1, 1, 35, -1, -1, 35,
                2, 1, 54, 2, -1, 54, -2, 1, 54, -2, -1, 54, 1, 2, 54, 1, -2, 54).corners(), 14);
    }

    private static void cornersEdges() {
        Check.due("empty", Given.lines(0, 0, -1).corners(), 0);
        Check.due("0 <= 0 has no border", Given.lines(0, 0, 0).corners(), 4);
        Check.due("through a corner", Given.lines(1, 1, 40).corners(), 4);
        Check.due("only a corner", Given.lines(1, 1, -40).corners(), 1);
        Check.due("only a side", Given.lines(1, 0, -20).corners(), 2);
        Check.due("only a segment", Given.lines(1, 2, 0, -1, -2, 0).corners(), 2);
        Check.due("twins", Given.lines(1, 1, 5, 2, 2, 10, 9, 9, 45).corners(), 3 + 2);
        Check.due("three in one point", Given.lines(1, 0, 0, 0, 1, 0, 1, 1, 0).corners(), 4);
        Check.due("a point", Given.lines(3, 0, 1, -3, 0, -1, 0, 6, 2, 0, -3, -1).corners(), 1);
        Check.due("x alike, y not", Given.lines(3, 0, 1, -3, 0, -1).corners(), 2);
        Check.due("parallel ones", Given.lines(1, 0, 5, 1, 0, 6, -1, 0, 5).corners(), 4);
    }

    private static void insideOrdinary() {
        HalfPlaneSolver s = Given.lines(2, 3, 12, -5, 2, 9);
        Check.due("inside(1, 2, 1)", s.inside(1, 2, 1), 1);
        Check.due("inside(3, 2, 1) on the border", s.inside(3, 2, 1), 1);
        Check.due("inside(151, 100, 50) beyond it", s.inside(151, 100, 50), 0);
        Check.due("inside(149, 100, 50) within it", s.inside(149, 100, 50), 1);
        Check.due("inside(-9, 0, 5) on the border", s.inside(-9, 0, 5), 1);
        Check.due("inside(-10, 0, 5) beyond it", s.inside(-10, 0, 5), 0);
        HalfPlaneSolver square = new HalfPlaneSolver();
        Check.due("inside(1000, -1000, 50)", square.inside(1000, -1000, 50), 1);
        Check.due("inside(1001, 0, 50)", square.inside(1001, 0, 50), 0);
        Check.due("inside(-1001, 0, 50)", square.inside(-1001, 0, 50), 0);
        Check.due("inside(0, 1001, 50)", square.inside(0, 1001, 50), 0);
        Check.due("inside(0, -1001, 50)", square.inside(0, -1001, 50), 0);
        Check.due("inside(20, 20, 1)", square.inside(20, 20, 1), 1);
        Check.due("inside(21, 20, 1)", square.inside(21, 20, 1), 0);
        square.add(0, 0, 0);
        Check.due("inside with 0 <= 0", square.inside(0, 0, 1), 1);
        square.add(0, 0, -1);
        Check.due("inside with 0 <= -1", square.inside(0, 0, 1), 0);
    }

    private static void gridOrdinary() {
        Check.due("square", Given.lines().grid(), 1681);
        Check.due("half", Given.lines(1, 0, 0).grid(), 21 * 41);
        Check.due("triangle", Given.lines(1, 1, 0).grid(), 861);
        Check.due("triangle without its border", Given.lines(1, 1, -1).grid(), 820);
        Check.due("between grid points", Given.lines(2, 0, 1, -2, 0, -1).grid(), 0);
        Check.due("one point", Given.lines(1, 0, 3, -1, 0, -3, 0, 1, 4, 0, -1, -4).grid(), 1);
        Check.due("sloped line", Given.lines(7, -3, 5, -7, 3, -5).grid(), 6);
        Check.due("corner of the square", Given.lines(-1, -1, -40).grid(), 1);
        Check.due("empty", Given.lines(0, 0, -1).grid(), 0);
    }
}
