/** Promises 6 and 7: assignability and joins of slot values. */
final class SlotValuesTest {
    /** Bases: A 3, B 4 and C 5 below A, I 6 and J 7 interfaces, D 8 below B. */
    private static final String BASES = "declareClass(2, false) = 3; declareClass(3, false) = 4;"
            + "declareClass(3, false) = 5; declareClass(2, true) = 6; declareClass(2, true) = 7;"
            + "declareClass(4, false) = 8;";

    public static void main(String[] args) {
        simpleSlots();
        classes();
        arrays();
        joins();
        wrongValues();
        Run.end();
    }

    private static Run run(String title) {
        return new Run(title).due(BASES);
    }

    private static void assignable(Run run, int from, int to, boolean want) {
        run.due("isAssignable(" + from + ", " + to + ") = " + want);
    }

    private static void joined(Run run, int first, int second, int want) {
        run.due("join(" + first + ", " + second + ") = " + want);
        run.due("join(" + second + ", " + first + ") = " + want);
        if (want != -2) {
            assignable(run, first, want, true);
            assignable(run, second, want, true);
        }
    }

    private static void simpleSlots() {
        Run run = run("slots that are no references");
        int[] simple = {0, 8, -2, -3, -4, -10, -11, -109};
        for (int from : simple) {
            for (int to : simple) {
                assignable(run, from, to, from == to || to == -2);
                joined(run, from, to, from == to ? from : -2);
            }
            for (int reference : new int[] {-1, 16, 24, 1, 9, 48}) {
                assignable(run, from, reference, false);
                assignable(run, reference, from, from == -2);
                joined(run, from, reference, -2);
            }
        }
    }

    private static void classes() {
        Run run = run("classes and interfaces");
        boolean[][] due = {
            // Object, A, B, C, I, J, D
            {true, false, false, false, true, true, false},
            {true, true, false, false, true, true, false},
            {true, true, true, false, true, true, false},
            {true, true, false, true, true, true, false},
            {true, false, false, false, true, true, false},
            {true, false, false, false, true, true, false},
            {true, true, true, false, true, true, true}};
        for (int from = 2; from <= 8; from++) {
            for (int to = 2; to <= 8; to++) {
                assignable(run, 8 * from, 8 * to, due[from - 2][to - 2]);
                assignable(run, 8 * from + 1, 8 * to + 1, due[from - 2][to - 2]);
                assignable(run, 8 * from + 4, 8 * to + 4, due[from - 2][to - 2]);
                assignable(run, -1, 8 * to, true);
                assignable(run, 8 * from, -1, false);
            }
        }
        assignable(run, -1, -1, true);
        assignable(run, -1, -2, true);
        assignable(run, -2, -1, false);
    }

    private static void arrays() {
        Run run = run("arrays");
        assignable(run, 1, 1, true);
        assignable(run, 1, 16, true);
        assignable(run, 1, 48, true);
        assignable(run, 1, 24, false);
        assignable(run, 1, 9, false);
        assignable(run, 1, 17, false);
        assignable(run, 2, 17, true);
        assignable(run, 2, 49, true);
        assignable(run, 2, 18, false);
        assignable(run, 2, 10, false);
        assignable(run, 2, 1, false);
        assignable(run, 4, 19, true);
        assignable(run, 4, 20, false);
        assignable(run, 12, 51, true);
        assignable(run, 9, 8, false);
        assignable(run, 8, 9, false);
        assignable(run, 33, 25, true);
        assignable(run, 33, 17, true);
        assignable(run, 33, 16, true);
        assignable(run, 33, 32, false);
        assignable(run, 32, 33, false);
        assignable(run, 17, 49, true);
        assignable(run, 34, 17, true);
        assignable(run, 34, 49, true);
        assignable(run, 34, 25, false);
        assignable(run, 33, 18, false);
        assignable(run, 25, 33, false);
        assignable(run, -1, 4, true);
        assignable(run, 36, 20, true);
        assignable(run, 68, 28, true);
        assignable(run, 28, 68, false);
    }

    private static void joins() {
        Run run = run("joins");
        joined(run, 32, 40, 24);
        joined(run, 64, 40, 24);
        joined(run, 64, 32, 32);
        joined(run, 64, 24, 24);
        joined(run, 24, 16, 16);
        joined(run, 24, 48, 16);
        joined(run, 48, 56, 16);
        joined(run, 48, 48, 48);
        joined(run, 48, 16, 16);
        joined(run, -1, 48, 48);
        joined(run, -1, 4, 4);
        joined(run, -1, -1, -1);
        joined(run, 33, 41, 25);
        joined(run, 49, 33, 17);
        joined(run, 36, 44, 28);
        joined(run, 52, 44, 20);
        joined(run, 33, 42, 17);
        joined(run, 33, 40, 16);
        joined(run, 36, 17, 17);
        joined(run, 1, 9, 16);
        joined(run, 1, 1, 1);
        joined(run, 1, 2, 16);
        joined(run, 2, 10, 17);
        joined(run, 2, 33, 17);
        joined(run, 2, 34, 17);
        joined(run, 3, 34, 18);
        joined(run, 4, 12, 19);
        joined(run, 1, 33, 16);
        joined(run, 1, 24, 16);
        joined(run, 25, 48, 16);
        joined(run, 0, 16, -2);
    }

    private static void wrongValues() {
        Run run = run("no slot values");
        int[] wrong = {5, 6, 7, 13, 72, 77, -5, -9, -110, -111, Integer.MAX_VALUE, Integer.MIN_VALUE};
        for (int value : wrong) {
            for (String call : new String[] {"isAssignable", "join"}) {
                run.due(call + "(" + value + ", 16) = IAE");
                run.due(call + "(16, " + value + ") = IAE");
                run.due(call + "(" + value + ", " + value + ") = IAE");
            }
            run.due("isAssignable(" + value + ", -2) = IAE");
        }
        run.due("join(68, 68) = 68; join(-109, -109) = -109; declareClass(2, false) = 9; join(72, 16) = 16");
    }
}
