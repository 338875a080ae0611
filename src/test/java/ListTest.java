/** Promises 1 to 6 in ordinary use: a new object, add, remove, shift, goal, lines. */
public final class ListTest {
    public static void main(String[] args) {
        newObject();
        addAnswersNumbers();
        removeRenumbers();
        removeKeepsTheOthersWhole();
        shiftMovesTheLine();
        goalSets();
        objectsAreApart();
        Check.end();
    }

    private static void newObject() {
        HalfPlaneSolver s = new HalfPlaneSolver();
        Check.due("new: lines", s.lines(), 0);
        Check.due("new: empty", s.empty(), 0);
        Check.due("new: corners", s.corners(), 4);
        Check.due("new: grid", s.grid(), 41 * 41);
        Check.due("new: tight", s.tight(), 0);
        Check.due("new: remove(0)", s.remove(0), -1);
        Check.due("new: shift(0, 0)", s.shift(0, 0), -1);
        Check.due("new: redundant(0)", s.redundant(0), -1);
        Check.dueBest("new: goal (0, 0)", s, 0, 1, -20, 1, -20, 1);
    }

    private static void addAnswersNumbers() {
        HalfPlaneSolver s = new HalfPlaneSolver();
        int[][] edges = {{-9, 9, 99}, {9, -9, 99}, {0, 0, 99}, {1, 0, 5}, {0, 1, -99}};
        for (int i = 0; i < 10; i++) {
            int[] e = edges[i % 5];
            Check.due("add " + i, s.add(e[0], e[1], e[2]), i);
            Check.due("lines after add " + i, s.lines(), i + 1);
        }
        Check.due("remove makes room", s.remove(3), 9);
        Check.due("add in the room made", s.add(1, 1, 1), 9);
    }

    private static void removeRenumbers() {
        HalfPlaneSolver s = new HalfPlaneSolver();
        for (int c = 0; c < 10; c++) {
            s.add(1, 0, c);
        }
        Check.due("remove the first", s.remove(0), 9);
        Check.due("line 0 is the old 1", s.shift(0, 0), 1);
        Check.due("line 8 is the old 9", s.shift(8, 0), 9);
        Check.due("remove in the middle", s.remove(4), 8);
        Check.due("line 3 stays", s.shift(3, 0), 4);
        Check.due("line 4 is the old 6", s.shift(4, 0), 6);
        Check.due("remove the last", s.remove(7), 7);
        Check.due("line 6 stays", s.shift(6, 0), 8);
        Check.due("line 7 is gone", s.shift(7, 0), -1);
        for (int left = 6; left >= 0; left--) {
            Check.due("remove down to " + left, s.remove(0), left);
        }
        Check.due("grid after all are gone", s.grid(), 41 * 41);
        Check.due("corners after all are gone", s.corners(), 4);
    }

    private static void removeKeepsTheOthersWhole() {
        HalfPlaneSolver s = new HalfPlaneSolver();
        s.add(1, 1, 10);
        s.add(3, -2, 7);
        s.add(-5, 4, 9);
        s.goal(2, -1);
        Check.due("remove before two others", s.remove(0), 2);
        // Along 3x - 2y = 7 the value grows with x, up to the side y = 20.
        Check.due("inside on line 0", s.inside(7, 7, 1), 1);
        Check.due("inside beyond line 0", s.inside(8, 8, 1), 0);
        Check.due("inside on line 1", s.inside(-9, -9, 1), 1);
        Check.due("inside beyond line 1", s.inside(-10, -10, 1), 0);
        Check.dueBest("after remove", s, 34, 3, 47, 3, 20, 1);
    }

    private static void shiftMovesTheLine() {
        HalfPlaneSolver s = new HalfPlaneSolver();
        s.add(1, 0, 3);
        s.add(0, 1, -4);
        Check.due("shift up", s.shift(0, 4), 7);
        Check.due("grid after shift up", s.grid(), 28 * 17);
        Check.due("shift down", s.shift(1, -6), -10);
        Check.due("grid after shift down", s.grid(), 28 * 11);
        Check.due("shift by 0", s.shift(1, 0), -10);
        Check.due("shift to 99", s.shift(0, 92), 99);
        Check.due("shift to -99", s.shift(0, -198), -99);
        Check.due("empty after shift to -99", s.empty(), 1);
        Check.due("shift back to 99", s.shift(0, 198), 99);
        Check.due("grid after shift to 99", s.grid(), 41 * 11);
    }

    private static void goalSets() {
        HalfPlaneSolver s = new HalfPlaneSolver();
        Check.due("goal(9, -9)", s.goal(9, -9), 0);
        Check.dueBest("goal (9, -9)", s, 360, 1, 20, 1, -20, 1);
        Check.due("goal(-9, 9)", s.goal(-9, 9), 0);
        Check.dueBest("goal (-9, 9)", s, 360, 1, -20, 1, 20, 1);
        s.add(1, 0, 5);
        s.remove(0);
        Check.dueBest("goal outlives lines", s, 360, 1, -20, 1, 20, 1);
    }

    private static void objectsAreApart() {
        HalfPlaneSolver one = new HalfPlaneSolver();
        HalfPlaneSolver other = new HalfPlaneSolver();
        one.add(0, 0, -1);
        one.goal(1, 1);
        Check.due("lines of the other", other.lines(), 0);
        Check.due("empty of the other", other.empty(), 0);
        Check.due("xTop of the other", other.xTop(), -20);
    }
}
