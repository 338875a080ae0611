import java.util.ArrayList;
import java.util.LinkedHashSet;
import java.util.List;
import java.util.Set;

/**
 * All promises against a second way to the same answers: the square is clipped by one line after
 * another, and the polygon that is left tells the region. The calls come from a fixed sequence of
 * numbers, so every run of this test is the same.
 */
public final class ClippingTest {
    private record Point(Fraction x, Fraction y) {
    }

    // A run starts with at most 10 calls and a step makes at most 27; nothing is promised after an
    // object's 512th.
    private static final int RUNS = 660;
    private static final int STEPS = 18;

    private static long state = 20261115;
    private static final List<int[]> list = new ArrayList<>();
    private static int goalP;
    private static int goalQ;
    private static HalfPlaneSolver solver;
    private static String where;

    public static void main(String[] args) {
        for (int run = 0; run < RUNS; run++) {
            solver = new HalfPlaneSolver();
            list.clear();
            goalP = 0;
            goalQ = 0;
            // Small numbers make lines that are alike, parallel or through one point.
            int size = new int[] {1, 2, 3, 9}[run % 4];
            where = "run " + run + " start";
            for (int line = 0; line < run % 11; line++) {
                // With no c below 0 the origin stays in the region.
                changeByAdd(around(size), around(size), next(100));
            }
            for (int step = 0; step < STEPS; step++) {
                change(size);
                where = "run " + run + " step " + step;
                askAll();
                askPoints();
            }
        }
        Check.end();
    }

    private static int next(int bound) {
        state = state * 6364136223846793005L + 1442695040888963407L;
        return (int) ((state >>> 33) % bound);
    }

    private static int around(int size) {
        return next(2 * size + 1) - size;
    }

    private static void change(int size) {
        int kind = next(10);
        if (kind < 5) {
            changeByAdd(around(size), around(size), around(Math.min(101, 10 * size + next(60))));
        } else if (kind < 6) {
            changeByRemove(next(11) - 1);
        } else if (kind < 8) {
            changeByShift(next(11) - 1, next(9) == 0 ? around(300) : around(size));
        } else {
            changeByGoal(around(size + next(2)), around(size));
        }
    }

    private static void changeByAdd(int a, int b, int c) {
        int want = Math.abs(c) > 99 ? -2 : list.size() == 10 ? -3 : list.size();
        Check.due(where + " add", solver.add(a, b, c), want);
        if (want >= 0) {
            list.add(new int[] {a, b, c});
        }
    }

    private static void changeByRemove(int line) {
        int want = -1;
        if (line >= 0 && line < list.size()) {
            list.remove(line);
            want = list.size();
        }
        Check.due(where + " remove", solver.remove(line), want);
    }

    private static void changeByShift(int line, int by) {
        int want = -1;
        if (line >= 0 && line < list.size()) {
            int moved = list.get(line)[2] + by;
            want = Math.abs(moved) > 99 ? -2 : moved;
            if (Math.abs(moved) <= 99) {
                list.get(line)[2] = moved;
            }
        }
        Check.due(where + " shift", solver.shift(line, by), want);
    }

    private static void changeByGoal(int p, int q) {
        int want = Math.abs(p) > 9 || Math.abs(q) > 9 ? -1 : 0;
        Check.due(where + " goal", solver.goal(p, q), want);
        if (want == 0) {
            goalP = p;
            goalQ = q;
        }
    }

    private static void askAll() {
        Set<Point> region = clipped(-1);
        Check.due(where + " lines", solver.lines(), list.size());
        Check.due(where + " empty", solver.empty(), region.isEmpty() ? 1 : 0);
        Check.due(where + " corners", solver.corners(), region.size());
        for (int line = 0; line < list.size(); line++) {
            Check.due(where + " redundant " + line, solver.redundant(line),
                    clipped(line).equals(region) ? 1 : 0);
        }
        if (region.isEmpty()) {
            Check.dueBest(where, solver, 0, 0, 0, 0, 0, 0);
            Check.due(where + " tight", solver.tight(), -1);
            return;
        }
        Point best = best(region);
        Fraction value = value(best);
        Check.dueBest(where, solver, value.top().intValueExact(), value.bottom().intValueExact(),
                best.x().top().intValueExact(), best.x().bottom().intValueExact(),
                best.y().top().intValueExact(), best.y().bottom().intValueExact());
        long tight = list.stream().filter(line -> slack(line, best).sign() == 0).count();
        Check.due(where + " tight", solver.tight(), tight);
    }

    private static void askPoints() {
        int count = 0;
        for (int x = -20; x <= 20; x++) {
            for (int y = -20; y <= 20; y++) {
                count += isInside(x, y, 1);
            }
        }
        Check.due(where + " grid", solver.grid(), count);
        for (int i = 0; i < 5; i++) {
            int d = 1 + next(50);
            int x = around(Math.min(2000, 21 * d));
            int y = around(Math.min(2000, 21 * d));
            Check.due(where + " inside " + x + " " + y + " " + d, solver.inside(x, y, d),
                    isInside(x, y, d));
        }
    }

    private static int isInside(int x, int y, int d) {
        boolean in = Math.abs(x) <= 20 * d && Math.abs(y) <= 20 * d;
        for (int[] line : list) {
            in = in && line[0] * x + line[1] * y <= line[2] * d;
        }
        return in ? 1 : 0;
    }

    /** The corners of the region that all lines but one cut out of the square. */
    private static Set<Point> clipped(int without) {
        Fraction low = Fraction.of(-20);
        Fraction high = Fraction.of(20);
        List<Point> polygon = List.of(new Point(low, low), new Point(high, low),
                new Point(high, high), new Point(low, high));
        for (int line = 0; line < list.size(); line++) {
            if (line != without) {
                polygon = clip(polygon, list.get(line));
            }
        }
        return new LinkedHashSet<>(polygon);
    }

    private static List<Point> clip(List<Point> polygon, int[] line) {
        Set<Point> left = new LinkedHashSet<>();
        for (int i = 0; i < polygon.size(); i++) {
            Point from = polygon.get(i);
            Point to = polygon.get((i + 1) % polygon.size());
            Fraction slackFrom = slack(line, from);
            Fraction slackTo = slack(line, to);
            if (slackFrom.sign() >= 0) {
                left.add(from);
            }
            if (slackFrom.sign() * slackTo.sign() < 0) {
                Fraction part = slackFrom.over(slackFrom.minus(slackTo));
                left.add(new Point(from.x().plus(part.times(to.x().minus(from.x()))),
                        from.y().plus(part.times(to.y().minus(from.y())))));
            }
        }
        return new ArrayList<>(left);
    }

    private static Fraction slack(int[] line, Point point) {
        return Fraction.of(line[2]).minus(Fraction.of(line[0]).times(point.x()))
                .minus(Fraction.of(line[1]).times(point.y()));
    }

    private static Fraction value(Point point) {
        return Fraction.of(goalP).times(point.x()).plus(Fraction.of(goalQ).times(point.y()));
    }

    private static Point best(Set<Point> region) {
        Point best = null;
        for (Point point : region) {
            if (best == null || isBetter(point, best)) {
                best = point;
            }
        }
        return best;
    }

    private static boolean isBetter(Point one, Point other) {
        int byValue = value(one).compareTo(value(other));
        int byX = other.x().compareTo(one.x());
        int byY = other.y().compareTo(one.y());
        return byValue != 0 ? byValue > 0 : byX != 0 ? byX > 0 : byY > 0;
    }
}
