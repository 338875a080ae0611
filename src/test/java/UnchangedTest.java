import java.util.ArrayList;
import java.util.Arrays;
import java.util.List;
import java.util.function.Supplier;
import java.util.function.ToIntFunction;

/**
 * "No question changes anything. A refused call changes nothing." Each such call is made on objects
 * in several states, and all that they answer afterwards is compared with an object on which it was
 * not made.
 */
public final class UnchangedTest {
    private record Call(String name, ToIntFunction<HalfPlaneSolver> made) {
    }

    private static final int[] WRONG_FACTORS = {-10, 10, Given.LEAST, Given.GREATEST};
    private static final int[] WRONG_LIMITS = {-100, 100, Given.LEAST, Given.GREATEST};

    public static void main(String[] args) {
        for (int[] lines : states()) {
            for (int[] goal : new int[][] {{0, 0}, {5, -7}}) {
                Supplier<HalfPlaneSolver> making = () -> made(lines, goal);
                String state = Arrays.toString(lines) + " goal " + Arrays.toString(goal);
                check(state, making, questions(), false);
                check(state, making, refusals(lines.length / 3), true);
            }
        }
        Check.end();
    }

    private static int[][] states() {
        int[][] empty = Given.emptyRegions();
        return new int[][] {
            {},
            {2, 3, 12},
            {0, 0, 0},
            {9, -9, 99, -9, 9, -99},
            {7, 0, 1, -7, 0, -1, 0, 9, 1, 0, -9, -1},
            {2, 3, 12, -5, 2, 9, 1, 1, 5, 3, -1, 40, 0, 0, 5, -1, -4, 60, 7, 2, 31, 1, 0, 4, 0, 1, 3,
                -9, -8, 97},
            empty[0],
            empty[7],
            empty[empty.length - 1],
        };
    }

    private static HalfPlaneSolver made(int[] lines, int[] goal) {
        HalfPlaneSolver s = Given.lines(lines);
        s.goal(goal[0], goal[1]);
        return s;
    }

    private static void check(String state, Supplier<HalfPlaneSolver> making, List<Call> calls,
            boolean refused) {
        List<Integer> want = Everything.of(making);
        for (Call call : calls) {
            if (refused) {
                int answer = call.made().applyAsInt(making.get());
                Check.due(state + " refuses " + call.name(), answer < 0 ? 1 : 0, 1);
            }
            List<Integer> got = Everything.of(() -> {
                HalfPlaneSolver s = making.get();
                call.made().applyAsInt(s);
                return s;
            });
            Check.due(state + " after " + call.name() + " is as before", got.equals(want) ? 1 : 0, 1);
        }
    }

    private static List<Call> questions() {
        return List.of(
                new Call("lines()", s -> s.lines()),
                new Call("empty()", s -> s.empty()),
                new Call("valueTop()", s -> s.valueTop()),
                new Call("valueBottom()", s -> s.valueBottom()),
                new Call("xTop()", s -> s.xTop()),
                new Call("xBottom()", s -> s.xBottom()),
                new Call("yTop()", s -> s.yTop()),
                new Call("yBottom()", s -> s.yBottom()),
                new Call("tight()", s -> s.tight()),
                new Call("redundant(0)", s -> s.redundant(0)),
                new Call("redundant(1)", s -> s.redundant(1)),
                new Call("redundant(9)", s -> s.redundant(9)),
                new Call("corners()", s -> s.corners()),
                new Call("inside(0, 0, 1)", s -> s.inside(0, 0, 1)),
                new Call("inside(2000, -2000, 50)", s -> s.inside(2000, -2000, 50)),
                new Call("grid()", s -> s.grid()));
    }

    private static List<Call> refusals(int count) {
        List<Call> calls = new ArrayList<>();
        for (int wrong : WRONG_FACTORS) {
            calls.add(new Call("add(" + wrong + ", 1, 1)", s -> s.add(wrong, 1, 1)));
            calls.add(new Call("add(1, " + wrong + ", 1)", s -> s.add(1, wrong, 1)));
            calls.add(new Call("goal(" + wrong + ", 1)", s -> s.goal(wrong, 1)));
            calls.add(new Call("goal(1, " + wrong + ")", s -> s.goal(1, wrong)));
        }
        for (int wrong : WRONG_LIMITS) {
            calls.add(new Call("add(1, 1, " + wrong + ")", s -> s.add(1, 1, wrong)));
        }
        if (count == 10) {
            calls.add(new Call("add(1, 1, 1)", s -> s.add(1, 1, 1)));
        }
        for (int number : new int[] {-1, -4, count, count + 1, 10, Given.LEAST, Given.GREATEST}) {
            calls.add(new Call("remove(" + number + ")", s -> s.remove(number)));
            calls.add(new Call("shift(" + number + ", 1)", s -> s.shift(number, 1)));
            calls.add(new Call("redundant(" + number + ")", s -> s.redundant(number)));
        }
        for (int line = 0; line < count; line += 4) {
            int number = line;
            for (int by : new int[] {199, -199, Given.LEAST, Given.GREATEST}) {
                calls.add(new Call("shift(" + number + ", " + by + ")", s -> s.shift(number, by)));
            }
        }
        for (int d : new int[] {0, 51, Given.LEAST, Given.GREATEST}) {
            calls.add(new Call("inside(0, 0, " + d + ")", s -> s.inside(0, 0, d)));
        }
        for (int top : new int[] {-2001, 2001, Given.LEAST, Given.GREATEST}) {
            calls.add(new Call("inside(" + top + ", 0, 1)", s -> s.inside(top, 0, 1)));
            calls.add(new Call("inside(0, " + top + ", 1)", s -> s.inside(0, top, 1)));
        }
        return calls;
    }
}
