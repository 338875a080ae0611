/** The example of README.md, call by call, so that what it tells stays true. */
public final class ReadmeTest {
    public static void main(String[] args) {
        HalfPlaneSolver s = new HalfPlaneSolver();
        Check.due("add(2, 3, 12)", s.add(2, 3, 12), 0);
        Check.due("add(-5, 2, 9)", s.add(-5, 2, 9), 1);
        Check.due("goal(3, 5)", s.goal(3, 5), 0);
        Check.dueBest("best point", s, 381, 19, -3, 19, 78, 19);
        Check.due("tight()", s.tight(), 2);
        Check.due("corners()", s.corners(), 4);
        Check.due("inside(-3, 78, 19)", s.inside(-3, 78, 19), 1);
        Check.due("shift(0, -40)", s.shift(0, -40), -28);
        Check.due("redundant(1)", s.redundant(1), 0);
        Check.due("remove(1)", s.remove(1), 1);
        Check.due("add(11, 0, 5)", s.add(11, 0, 5), -1);
        Check.end();
    }
}
