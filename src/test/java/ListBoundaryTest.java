import java.util.List;

/** The boundary cases that promises 1 to 6 name; each method stands for one sentence. */
public final class ListBoundaryTest {
    private static final int FACTOR = 9;
    private static final int LIMIT = 99;
    private static final int[][] TEN = {{1, 2, 3}, {-4, 5, 6}, {7, -8, 9}, {9, 9, 99}, {-9, -9, 98},
        {0, 1, 17}, {1, 0, 16}, {0, 0, 5}, {3, 3, 30}, {-2, 7, -1}};

    public static void main(String[] args) {
        newObjectHasNoLines();
        addTakesOrRefusesA();
        addTakesOrRefusesB();
        addTakesOrRefusesC();
        addRefusesTheEleventh();
        addTestsInOrder();
        addAnswersTheNumberAtTheEnd();
        addKeepsTheNumbersAtTheEdges();
        removeTakesOutAnyOfTen();
        removeTakesOutTheOnlyLine();
        removeRefusesWithoutSuchALine();
        removeAnswersHowManyAreLeft();
        shiftToTheEdges();
        shiftByAnyInt();
        shiftMovesEachOfTen();
        shiftTestsInOrder();
        goalTakesOrRefusesP();
        goalTakesOrRefusesQ();
        goalRefusesBoth();
        refusedGoalSetsNeither();
        linesFromNoneToTen();
        Check.end();
    }

    // "No lines at first."
    private static void newObjectHasNoLines() {
        Check.due("new: lines", new HalfPlaneSolver().lines(), 0);
        Check.due("new: remove(0)", new HalfPlaneSolver().remove(0), -1);
        Check.due("new: shift(0, 0)", new HalfPlaneSolver().shift(0, 0), -1);
        Check.due("new: redundant(0)", new HalfPlaneSolver().redundant(0), -1);
        Check.due("new: tight", new HalfPlaneSolver().tight(), 0);
        Check.due("new: corners", new HalfPlaneSolver().corners(), 4);
        Check.due("new: grid", new HalfPlaneSolver().grid(), 1681);
        Check.due("new: first add", new HalfPlaneSolver().add(1, 1, 1), 0);
    }

    // "-1 if a or b is not in -9 .. 9"
    private static void addTakesOrRefusesA() {
        for (int a = -FACTOR; a <= FACTOR; a++) {
            Check.due("add a " + a, new HalfPlaneSolver().add(a, 0, 0), 0);
        }
        for (int a : Given.outside(-FACTOR, FACTOR)) {
            HalfPlaneSolver s = new HalfPlaneSolver();
            Check.due("add a " + a, s.add(a, 0, 0), -1);
            Check.due("lines after a " + a, s.lines(), 0);
        }
    }

    private static void addTakesOrRefusesB() {
        for (int b = -FACTOR; b <= FACTOR; b++) {
            Check.due("add b " + b, new HalfPlaneSolver().add(0, b, 0), 0);
        }
        for (int b : Given.outside(-FACTOR, FACTOR)) {
            HalfPlaneSolver s = new HalfPlaneSolver();
            Check.due("add b " + b, s.add(0, b, 0), -1);
            Check.due("lines after b " + b, s.lines(), 0);
        }
    }

    // "-2 if c is not in -99 .. 99"
    private static void addTakesOrRefusesC() {
        for (int c = -LIMIT; c <= LIMIT; c++) {
            HalfPlaneSolver s = new HalfPlaneSolver();
            Check.due("add c " + c, s.add(1, -1, c), 0);
            Check.due("c after add c " + c, s.shift(0, 0), c);
        }
        for (int c : Given.outside(-LIMIT, LIMIT)) {
            HalfPlaneSolver s = new HalfPlaneSolver();
            Check.due("add c " + c, s.add(1, -1, c), -2);
            Check.due("lines after c " + c, s.lines(), 0);
        }
    }

    // "-3 if there are 10 lines"
    private static void addRefusesTheEleventh() {
        Check.due("the tenth", Given.same(9, 1, 1, 1).add(1, 1, 1), 9);
        HalfPlaneSolver s = Given.same(10, 1, 1, 1);
        for (int again = 0; again < 20; again++) {
            Check.due("the eleventh", s.add(1, 0, 0), -3);
            Check.due("lines after the eleventh", s.lines(), 10);
        }
        Check.due("the eleventh, 0 <= 0", s.add(0, 0, 0), -3);
        Check.due("the eleventh at the upper edges", s.add(9, 9, 99), -3);
        Check.due("the eleventh at the lower edges", s.add(-9, -9, -99), -3);
        Check.due("room for one", s.remove(9), 9);
        Check.due("the tenth again", s.add(1, 1, 1), 9);
        Check.due("the eleventh again", s.add(1, 1, 1), -3);
    }

    // "In every method the tests are made in the order named"
    private static void addTestsInOrder() {
        for (int count : new int[] {0, 9, 10}) {
            for (int a : new int[] {0, 10, -10, Given.LEAST}) {
                for (int b : new int[] {0, 10, -10, Given.GREATEST}) {
                    for (int c : new int[] {0, 100, -100, Given.LEAST}) {
                        int want = a != 0 || b != 0 ? -1 : c != 0 ? -2 : count == 10 ? -3 : count;
                        HalfPlaneSolver s = Given.same(count, 1, 1, 1);
                        Check.due("add " + a + " " + b + " " + c + " to " + count,
                                s.add(a, b, c), want);
                        Check.due("lines then", s.lines(), want < 0 ? count : count + 1);
                    }
                }
            }
        }
    }

    // "Puts a line at the end of the list .. otherwise answers its number."
    private static void addAnswersTheNumberAtTheEnd() {
        HalfPlaneSolver s = Given.lines(1, 1, 1, 2, 2, 2, 3, 3, 3);
        Check.due("remove the first", s.remove(0), 2);
        Check.due("add after it", s.add(4, 4, 4), 2);
        Check.due("c of line 0", s.shift(0, 0), 2);
        Check.due("c of line 1", s.shift(1, 0), 3);
        Check.due("c of line 2", s.shift(2, 0), 4);
    }

    private static void addKeepsTheNumbersAtTheEdges() {
        // 9x - 9y = 99 leaves the square's lower side at x = -9 and its right side at y = 9.
        HalfPlaneSolver s = Given.lines(9, -9, 99);
        s.goal(9, -9);
        Check.dueBest("9x - 9y <= 99", s, 99, 1, -9, 1, -20, 1);
        HalfPlaneSolver t = Given.lines(-9, 9, -99);
        t.goal(-9, 9);
        Check.dueBest("-9x + 9y <= -99", t, -99, 1, -9, 1, -20, 1);
        t.goal(1, 1);
        Check.dueBest("-9x + 9y <= -99, upwards", t, 29, 1, 20, 1, 9, 1);
    }

    // "Takes a line out; later ones get numbers less by one."
    private static void removeTakesOutAnyOfTen() {
        for (int out = 0; out < 10; out++) {
            int taken = out;
            List<Integer> got = Everything.of(() -> {
                HalfPlaneSolver s = allBut(10);
                s.remove(taken);
                return s;
            });
            List<Integer> want = Everything.of(() -> allBut(taken));
            Check.due("ten lines without " + out, got.equals(want) ? 1 : 0, 1);
        }
    }

    private static HalfPlaneSolver allBut(int out) {
        HalfPlaneSolver s = new HalfPlaneSolver();
        for (int line = 0; line < TEN.length; line++) {
            if (line != out) {
                s.add(TEN[line][0], TEN[line][1], TEN[line][2]);
            }
        }
        return s;
    }

    private static void removeTakesOutTheOnlyLine() {
        HalfPlaneSolver s = Given.lines(0, 0, -1);
        Check.due("remove the only line", s.remove(0), 0);
        Check.due("lines then", s.lines(), 0);
        Check.due("empty then", s.empty(), 0);
        Check.due("grid then", s.grid(), 1681);
        Check.due("remove it again", s.remove(0), -1);
        Check.due("the next line's number", s.add(1, 0, 0), 0);
    }

    // "-1 if line is not good"
    private static void removeRefusesWithoutSuchALine() {
        for (int count : new int[] {0, 1, 10}) {
            HalfPlaneSolver s = Given.same(count, 1, 0, 5);
            Check.due("remove the number after the last of " + count, s.remove(count), -1);
            Check.due("remove -1 of " + count, s.remove(-1), -1);
            Check.due("remove the least int of " + count, s.remove(Given.LEAST), -1);
            Check.due("remove the greatest int of " + count, s.remove(Given.GREATEST), -1);
            Check.due("lines of " + count + " then", s.lines(), count);
        }
    }

    // "otherwise answers how many are left"
    private static void removeAnswersHowManyAreLeft() {
        HalfPlaneSolver fromEnd = Given.same(10, 1, 1, 1);
        HalfPlaneSolver fromStart = Given.same(10, 1, 1, 1);
        for (int left = 9; left >= 0; left--) {
            Check.due("remove the last, left", fromEnd.remove(left), left);
            Check.due("remove the first, left", fromStart.remove(0), left);
        }
        Check.due("remove from the end once more", fromEnd.remove(0), -1);
        Check.due("remove from the start once more", fromStart.remove(0), -1);
    }

    // "its c becomes c + by .. -2 if c + by would not be in -99 .. 99 .. answers the new c"
    private static void shiftToTheEdges() {
        for (int from : new int[] {-99, -98, -1, 0, 1, 98, 99}) {
            for (int to = -103; to <= 103; to++) {
                boolean taken = to >= -99 && to <= 99;
                HalfPlaneSolver s = Given.lines(1, 0, from);
                Check.due("shift from " + from + " to " + to, s.shift(0, to - from), taken ? to : -2);
                Check.due("c then", s.shift(0, 0), taken ? to : from);
            }
        }
    }

    // "(by may be any int)"
    private static void shiftByAnyInt() {
        for (int from : new int[] {-99, -1, 0, 1, 99}) {
            for (int by : Given.outside(-198, 198)) {
                HalfPlaneSolver s = Given.lines(0, 1, from);
                Check.due("shift " + from + " by " + by, s.shift(0, by), -2);
                Check.due("c then", s.shift(0, 0), from);
            }
            for (int near = 0; near <= 100; near++) {
                HalfPlaneSolver s = Given.lines(0, 1, from);
                Check.due("shift up, greatest less " + near, s.shift(0, Given.GREATEST - near), -2);
                Check.due("shift down, least and " + near, s.shift(0, Given.LEAST + near), -2);
                Check.due("c then", s.shift(0, 0), from);
            }
        }
    }

    private static void shiftMovesEachOfTen() {
        for (int line = 0; line < 10; line++) {
            int moved = line;
            List<Integer> got = Everything.of(() -> {
                HalfPlaneSolver s = allBut(10);
                s.shift(moved, -TEN[moved][2] - 7);
                return s;
            });
            List<Integer> want = Everything.of(() -> {
                HalfPlaneSolver s = new HalfPlaneSolver();
                for (int i = 0; i < 10; i++) {
                    s.add(TEN[i][0], TEN[i][1], i == moved ? -7 : TEN[i][2]);
                }
                return s;
            });
            Check.due("ten lines, " + line + " moved", got.equals(want) ? 1 : 0, 1);
        }
    }

    private static void shiftTestsInOrder() {
        for (int count : new int[] {0, 1, 10}) {
            for (int number : new int[] {-1, count, 10, Given.LEAST, Given.GREATEST}) {
                for (int by : new int[] {0, 100, 199, -199, Given.LEAST, Given.GREATEST}) {
                    Check.due("shift " + number + " of " + count + " by " + by,
                            Given.same(count, 1, 0, 5).shift(number, by), -1);
                }
            }
        }
    }

    // "-1 if p or q is not in -9 .. 9; otherwise 0"
    private static void goalTakesOrRefusesP() {
        for (int p = -FACTOR; p <= FACTOR; p++) {
            HalfPlaneSolver s = new HalfPlaneSolver();
            Check.due("goal p " + p, s.goal(p, 0), 0);
            Check.due("value with p " + p, s.valueTop(), 20 * Math.abs(p));
        }
        for (int p : Given.outside(-FACTOR, FACTOR)) {
            HalfPlaneSolver s = new HalfPlaneSolver();
            Check.due("goal p " + p, s.goal(p, 0), -1);
            Check.dueBest("after p " + p, s, 0, 1, -20, 1, -20, 1);
        }
    }

    private static void goalTakesOrRefusesQ() {
        for (int q = -FACTOR; q <= FACTOR; q++) {
            HalfPlaneSolver s = new HalfPlaneSolver();
            Check.due("goal q " + q, s.goal(0, q), 0);
            Check.due("value with q " + q, s.valueTop(), 20 * Math.abs(q));
        }
        for (int q : Given.outside(-FACTOR, FACTOR)) {
            HalfPlaneSolver s = new HalfPlaneSolver();
            Check.due("goal q " + q, s.goal(0, q), -1);
            Check.dueBest("after q " + q, s, 0, 1, -20, 1, -20, 1);
        }
    }

    private static void goalRefusesBoth() {
        HalfPlaneSolver s = new HalfPlaneSolver();
        for (int p : new int[] {-10, 10, Given.LEAST, Given.GREATEST}) {
            for (int q : new int[] {-10, 10, Given.LEAST, Given.GREATEST}) {
                Check.due("goal(" + p + ", " + q + ")", s.goal(p, q), -1);
            }
        }
        Check.dueBest("after refused goals", s, 0, 1, -20, 1, -20, 1);
    }

    // "A refused call changes nothing."
    private static void refusedGoalSetsNeither() {
        HalfPlaneSolver s = new HalfPlaneSolver();
        s.goal(3, -4);
        Check.due("good p, wrong q", s.goal(-9, 10), -1);
        Check.dueBest("after good p, wrong q", s, 140, 1, 20, 1, -20, 1);
        Check.due("wrong p, good q", s.goal(-10, 9), -1);
        Check.dueBest("after wrong p, good q", s, 140, 1, 20, 1, -20, 1);
    }

    // "How many lines there are."
    private static void linesFromNoneToTen() {
        HalfPlaneSolver s = new HalfPlaneSolver();
        for (int count = 0; count < 10; count++) {
            Check.due("lines on the way up", s.lines(), count);
            s.add(10, 0, 0);
            s.add(0, 0, 100);
            Check.due("lines after refused adds", s.lines(), count);
            s.add(0, 0, -1);
        }
        Check.due("lines when full", s.lines(), 10);
        s.add(0, 0, 0);
        Check.due("lines after the eleventh", s.lines(), 10);
        for (int count = 10; count > 0; count--) {
            Check.due("lines on the way down", s.lines(), count);
            s.remove(count);
            Check.due("lines after a refused remove", s.lines(), count);
            s.remove(0);
        }
        Check.due("lines at the end", s.lines(), 0);
    }
}
