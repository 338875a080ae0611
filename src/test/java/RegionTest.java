/** Promises 15 to 18: redundant, corners, inside, grid. */
public final class RegionTest {
    private static final int[] FAR = {Integer.MIN_VALUE, -1000000, 1000000, Integer.MAX_VALUE};

    public static void main(String[] args) {
        redundantOrdinary();
        redundantEdges();
        redundantRefuses();
        cornersOrdinary();
        cornersEdges();
        insideOrdinary();
        insideRefuses();
        gridOrdinary();
        Check.end();
    }

    private static HalfPlaneSolver with(int... numbers) {
        HalfPlaneSolver s = new HalfPlaneSolver();
        for (int i = 0; i + 2 < numbers.length; i += 3) {
            s.add(numbers[i], numbers[i + 1], numbers[i + 2]);
        }
        return s;
    }

    private static void redundantOrdinary() {
        HalfPlaneSolver s = with(1, 1, 10, 1, 0, 5, 0, 1, 5);
        Check.due("touches a corner", s.redundant(0), 1);
        Check.due("cuts, x", s.redundant(1), 0);
        Check.due("cuts, y", s.redundant(2), 0);
        s.shift(0, -1);
        Check.due("cuts a corner off", s.redundant(0), 0);
        s.shift(0, 2);
        Check.due("passes the corner by", s.redundant(0), 1);
        Check.due("lines after redundant", s.lines(), 3);
    }

    private static void redundantEdges() {
        HalfPlaneSolver twins = with(1, 2, 3, 3, 6, 9);
        Check.due("one twin", twins.redundant(0), 1);
        Check.due("other twin", twins.redundant(1), 1);
        twins.remove(1);
        Check.due("twin alone", twins.redundant(0), 0);
        Check.due("the square's own side", with(1, 0, 20).redundant(0), 1);
        Check.due("just inside the side", with(7, 0, 99, 1, 0, 19).redundant(1), 1);
        Check.due("through the square's corner", with(1, 1, 40).redundant(0), 1);
        Check.due("cuts the square's corner", with(1, 1, 39).redundant(0), 0);
        Check.due("0 <= 0", with(0, 0, 0).redundant(0), 1);
        Check.due("0 <= -1", with(0, 0, -1).redundant(0), 0);
        HalfPlaneSolver two = with(0, 0, -1, 1, 0, -99, 1, 0, 5);
        Check.due("empty all the same, 0 <= -1", two.redundant(0), 1);
        Check.due("empty all the same, x <= -99", two.redundant(1), 1);
        Check.due("empty all the same, x <= 5", two.redundant(2), 1);
        HalfPlaneSolver clash = with(1, 0, 0, -1, 0, -1, 0, 1, 3);
        Check.due("one of two that clash", clash.redundant(0), 0);
        Check.due("other of two that clash", clash.redundant(1), 0);
        Check.due("beside two that clash", clash.redundant(2), 1);
        HalfPlaneSolver flat = with(1, -1, 0, -1, 1, 0, 1, 0, 20, 1, 0, 19);
        Check.due("makes it flat", flat.redundant(0), 0);
        Check.due("through the end of a segment", flat.redundant(2), 1);
        Check.due("shortens a segment", flat.redundant(3), 0);
    }

    private static void redundantRefuses() {
        HalfPlaneSolver s = with(1, 1, 1, 2, 2, 2);
        Check.due("redundant(-1)", s.redundant(-1), -1);
        Check.due("redundant(2)", s.redundant(2), -1);
        for (int far : FAR) {
            Check.due("redundant " + far, s.redundant(far), -1);
        }
    }

    private static void cornersOrdinary() {
        Check.due("square", with().corners(), 4);
        Check.due("corner cut off", with(1, 1, 39).corners(), 5);
        Check.due("half of it", with(1, 1, 0).corners(), 3);
        Check.due("triangle", with(-1, 0, 0, 0, -1, 0, 2, 3, 7).corners(), 3);
        Check.due("eight corners", with(1, 1, 30, 1, -1, 30, -1, 1, 30, -1, -1, 30).corners(), 8);
        Check.due("fourteen corners", with(1, 1, 35, 1, -1, 35, -1, 1, 35, -1, -1, 35,
                2, 1, 54, 2, -1, 54, -2, 1, 54, -2, -1, 54, 1, 2, 54, 1, -2, 54).corners(), 14);
    }

    private static void cornersEdges() {
        Check.due("empty", with(0, 0, -1).corners(), 0);
        Check.due("0 <= 0 has no border", with(0, 0, 0).corners(), 4);
        Check.due("through a corner", with(1, 1, 40).corners(), 4);
        Check.due("only a corner", with(1, 1, -40).corners(), 1);
        Check.due("only a side", with(1, 0, -20).corners(), 2);
        Check.due("only a segment", with(1, 2, 0, -1, -2, 0).corners(), 2);
        Check.due("twins", with(1, 1, 5, 2, 2, 10, 9, 9, 45).corners(), 3 + 2);
        Check.due("three in one point", with(1, 0, 0, 0, 1, 0, 1, 1, 0).corners(), 4);
        Check.due("a point", with(3, 0, 1, -3, 0, -1, 0, 6, 2, 0, -3, -1).corners(), 1);
        Check.due("x alike, y not", with(3, 0, 1, -3, 0, -1).corners(), 2);
        Check.due("parallel ones", with(1, 0, 5, 1, 0, 6, -1, 0, 5).corners(), 4);
    }

    private static void insideOrdinary() {
        HalfPlaneSolver s = with(2, 3, 12, -5, 2, 9);
        Check.due("inside(1, 2, 1)", s.inside(1, 2, 1), 1);
        Check.due("inside(3, 2, 1) on the border", s.inside(3, 2, 1), 1);
        Check.due("inside(151, 100, 50) beyond it", s.inside(151, 100, 50), 0);
        Check.due("inside(149, 100, 50) within it", s.inside(149, 100, 50), 1);
        Check.due("inside(-9, 0, 5) on the border", s.inside(-9, 0, 5), 1);
        Check.due("inside(-10, 0, 5) beyond it", s.inside(-10, 0, 5), 0);
        HalfPlaneSolver square = new HalfPlaneSolver();
        Check.due("inside(1000, -1000, 50)", square.inside(1000, -1000, 50), 1);
        Check.due("inside(1001, 0, 50)", square.inside(1001, 0, 50), 0);
        Check.due("inside(-1001, 0, 50)", square.inside(-1001, 0, 50), 0);
        Check.due("inside(0, 1001, 50)", square.inside(0, 1001, 50), 0);
        Check.due("inside(0, -1001, 50)", square.inside(0, -1001, 50), 0);
        Check.due("inside(20, 20, 1)", square.inside(20, 20, 1), 1);
        Check.due("inside(21, 20, 1)", square.inside(21, 20, 1), 0);
        square.add(0, 0, 0);
        Check.due("inside with 0 <= 0", square.inside(0, 0, 1), 1);
        square.add(0, 0, -1);
        Check.due("inside with 0 <= -1", square.inside(0, 0, 1), 0);
    }

    private static void insideRefuses() {
        HalfPlaneSolver s = new HalfPlaneSolver();
        Check.due("d 0", s.inside(0, 0, 0), -1);
        Check.due("d -1", s.inside(0, 0, -1), -1);
        Check.due("d 51", s.inside(0, 0, 51), -1);
        Check.due("d before x", s.inside(2001, 0, 51), -1);
        Check.due("d before y", s.inside(0, 2001, 0), -1);
        Check.due("x 2001", s.inside(2001, 0, 1), -2);
        Check.due("x -2001", s.inside(-2001, 0, 1), -2);
        Check.due("y 2001", s.inside(0, 2001, 50), -2);
        Check.due("y -2001", s.inside(0, -2001, 50), -2);
        Check.due("x 2000", s.inside(2000, 0, 50), 0);
        Check.due("x -2000", s.inside(-2000, 0, 1), 0);
        Check.due("y 2000", s.inside(0, 2000, 50), 0);
        Check.due("y -2000", s.inside(0, -2000, 1), 0);
        for (int far : FAR) {
            Check.due("d " + far, s.inside(0, 0, far), -1);
            Check.due("x " + far, s.inside(far, 0, 1), -2);
            Check.due("y " + far, s.inside(0, far, 1), -2);
        }
    }

    private static void gridOrdinary() {
        Check.due("square", with().grid(), 1681);
        Check.due("half", with(1, 0, 0).grid(), 21 * 41);
        Check.due("triangle", with(1, 1, 0).grid(), 861);
        Check.due("triangle without its border", with(1, 1, -1).grid(), 820);
        Check.due("between grid points", with(2, 0, 1, -2, 0, -1).grid(), 0);
        Check.due("one point", with(1, 0, 3, -1, 0, -3, 0, 1, 4, 0, -1, -4).grid(), 1);
        Check.due("sloped line", with(7, -3, 5, -7, 3, -5).grid(), 6);
        Check.due("corner of the square", with(-1, -1, -40).grid(), 1);
        Check.due("empty", with(0, 0, -1).grid(), 0);
    }
}
