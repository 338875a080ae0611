import java.util.ArrayList;
import java.util.List;

/** Objects and numbers that several tests start from. */
final class Given {
    static final int LEAST = Integer.MIN_VALUE;
    static final int GREATEST = Integer.MAX_VALUE;

    private Given() {
    }

    /** A new object with the lines whose a, b, c follow one another in numbers. */
    static HalfPlaneSolver lines(int... numbers) {
        HalfPlaneSolver s = new HalfPlaneSolver();
        for (int i = 0; i + 2 < numbers.length; i += 3) {
            s.add(numbers[i], numbers[i + 1], numbers[i + 2]);
        }
        return s;
    }

    /** A new object with the same line several times. */
    static HalfPlaneSolver same(int count, int a, int b, int c) {
        HalfPlaneSolver s = new HalfPlaneSolver();
        for (int i = 0; i < count; i++) {
            s.add(a, b, c);
        }
        return s;
    }

    /**
     * Numbers that lie outside low .. high: the first on either side, the least and the greatest
     * int, and those that a byte or a short would take for the numbers at the edges or for 0.
     */
    static int[] outside(int low, int high) {
        List<Integer> numbers = new ArrayList<>(List.of(low - 1, low - 2, high + 1, high + 2,
                LEAST, LEAST + 1, GREATEST, GREATEST - 1));
        for (int wrap : new int[] {1 << 16, 1 << 24, 1 << 30}) {
            numbers.addAll(List.of(wrap, -wrap, wrap + high, -wrap + low, wrap + low, -wrap + high));
        }
        for (int near : new int[] {256, -256, 256 + low, -256 + high}) {
            if (near < low || near > high) {
                numbers.add(near);
            }
        }
        return numbers.stream().mapToInt(Integer::intValue).toArray();
    }

    /** Regions that are empty, each in another way, as lines. */
    static int[][] emptyRegions() {
        return new int[][] {
            {0, 0, -1},
            {0, 0, -99},
            {1, 0, -21},
            {-1, 0, -21},
            {0, 1, -21},
            {0, -1, -21},
            {1, 1, -41},
            {1, 0, 0, -1, 0, -1},
            {7, -3, 5, -7, 3, -6},
            {-1, 0, 0, 0, -1, 0, 1, 1, -1},
            {7, 0, 1, -7, 0, -1, 0, 9, 1, 0, -9, -1, 7, 9, 1},
            {1, 0, 1, 0, 1, 1, -1, 0, 1, 0, -1, 1, 1, 1, 1, 1, -1, 1, -1, 1, 1, -1, -1, 1, 0, 0, 0,
                0, 0, -1},
        };
    }
}
