/** Counts and prints the answers that are not as due. */
final class Check {
    private static int wrong = 0;
    private static int made = 0;

    private Check() {
    }

    static void due(String what, long got, long want) {
        made++;
        if (got != want) {
            wrong++;
            System.out.println(what + " answered " + got + ", due is " + want);
        }
    }

    /** The best point and its value, each fraction as numerator and denominator. */
    static void dueBest(String what, HalfPlaneSolver solver, int... want) {
        due(what + ": valueTop", solver.valueTop(), want[0]);
        due(what + ": valueBottom", solver.valueBottom(), want[1]);
        due(what + ": xTop", solver.xTop(), want[2]);
        due(what + ": xBottom", solver.xBottom(), want[3]);
        due(what + ": yTop", solver.yTop(), want[4]);
        due(what + ": yBottom", solver.yBottom(), want[5]);
    }

    static void end() {
        System.out.println(made + " answers, " + wrong + " not as due");
        if (wrong != 0 || made == 0) {
            System.exit(1);
        }
    }
}
