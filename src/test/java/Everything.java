import java.util.ArrayList;
import java.util.List;
import java.util.function.Supplier;

/**
 * All that can be told of an object from outside: what every question answers, and what it answers
 * for each line when the others are taken out. The calls change the object, so it is made anew for
 * each line, and none is used for more than 512 calls.
 */
final class Everything {
    private static final int[][] POINTS = {{0, 0, 1}, {20, 20, 1}, {-20, 20, 1}, {20, -20, 1},
        {-20, -20, 1}, {21, 0, 1}, {1, 1, 50}, {-1, -1, 50}, {7, -5, 3}, {-11, 13, 7}, {100, 9, 9}};
    private static final int[][] GOALS = {{0, 0}, {1, 0}, {-1, 0}, {0, 1}, {0, -1}, {9, 7}};

    private Everything() {
    }

    static List<Integer> of(Supplier<HalfPlaneSolver> making) {
        List<Integer> told = new ArrayList<>();
        HalfPlaneSolver whole = making.get();
        ask(whole, told);
        askUnderGoals(whole, told);
        int count = whole.lines();
        for (int line = 0; line < count; line++) {
            HalfPlaneSolver alone = making.get();
            takeOutAllBut(line, count, alone);
            told.add(alone.shift(0, 0));
            ask(alone, told);
            // Through the origin and beside it a line shows its factors, whatever its c was.
            alone.shift(0, -alone.shift(0, 0));
            ask(alone, told);
            alone.shift(0, 9);
            askUnderGoals(alone, told);
        }
        HalfPlaneSolver filled = making.get();
        for (int more = 0; more <= 10; more++) {
            told.add(filled.add(0, 0, 0));
        }
        return told;
    }

    /** What every question answers. */
    static void ask(HalfPlaneSolver s, List<Integer> told) {
        told.add(s.lines());
        told.add(s.empty());
        told.add(s.corners());
        told.add(s.grid());
        askBest(s, told);
        for (int line = -1; line <= 10; line++) {
            told.add(s.redundant(line));
        }
        for (int[] point : POINTS) {
            told.add(s.inside(point[0], point[1], point[2]));
        }
    }

    private static void askUnderGoals(HalfPlaneSolver s, List<Integer> told) {
        for (int[] goal : GOALS) {
            s.goal(goal[0], goal[1]);
            askBest(s, told);
        }
    }

    private static void askBest(HalfPlaneSolver s, List<Integer> told) {
        told.addAll(List.of(s.valueTop(), s.valueBottom(), s.xTop(), s.xBottom(), s.yTop(),
                s.yBottom(), s.tight()));
    }

    private static void takeOutAllBut(int line, int count, HalfPlaneSolver s) {
        for (int later = count - 1; later > line; later--) {
            s.remove(later);
        }
        for (int earlier = 0; earlier < line; earlier++) {
            s.remove(0);
        }
    }
}
