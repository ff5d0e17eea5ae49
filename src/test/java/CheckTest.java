/** Promises 17, 18 and 19: check, errorPosition, visits. */
final class CheckTest {
    /** A 3, B 4 below A, C 5 below A; method 0 is static and VOID, 1 the constructor of B, 2 that of A. */
    private static final String BASES = "declareClass(2, false) = 3; declareClass(3, false) = 4;"
            + "declareClass(3, false) = 5; declareMethod(2, 1, -1) = 0; declareMethod(4, 2, -1) = 1;"
            + "declareMethod(3, 2, -1) = 2;";

    public static void main(String[] args) {
        noCode();
        withoutFrames();
        framesOnTheWay();
        targets();
        handlers();
        unreached();
        assignability();
        marks();
        order();
        inferredFramesStay();
        Run.end();
    }

    private static Run run(String title) {
        return new Run(title).due(BASES);
    }

    private static void noCode() {
        new Run("no code").due("check() = ISE; errorPosition() = -1; visits() = 0; declareMethod(2, 1, -1) = 0;"
                + "check() = ISE; begin(0, 1, 1) = 0; check() = 7; errorPosition() = 0; visits() = 0");
    }

    private static void withoutFrames() {
        run("a straight code").due("begin(0, 2, 1) = 0").code(1, 0, 18, 0, 11, 0, 30, 0)
                .due("check() = 0; errorPosition() = -1; visits() = 4; hasFrame(0) = false; adoptFrames() = ISE");
        run("errors in it").due("begin(0, 1, 1) = 0").code(1, 0, 1, 0, 30, 0)
                .due("check() = 6; errorPosition() = 1; visits() = 2; emit(4, 5) = 3; check() = 1; errorPosition() = 3;"
                + "visits() = 0");
        run("the last instruction has a successor").due("begin(0, 1, 1) = 0").code(30, 0, 0, 0)
                .due("declareFrame(1, false) = 1; check() = 7; errorPosition() = 1; visits() = 2");
    }

    private static void framesOnTheWay() {
        run("a declared frame is the present one").due("begin(0, 1, 1) = 0").code(3, 0, 44, 32, 9, 0, 6, 0, 10, 0, 30, 0)
                .due("pushLocal(24) = 1; declareFrame(3, false) = 1; check() = 0; pushLocal(40) = 1;"
                + "declareFrame(3, false) = 1; check() = 10; errorPosition() = 3; visits() = 3; declareFrame(3, false) = 1;"
                + "check() = 5; errorPosition() = 3; visits() = 4");
        run("at the first instruction").due("begin(1, 1, 2) = 1").code(22, 0)
                .due("declareFrame(0, true) = 1; check() = 0; declareFrame(0, false) = 1; check() = 10;"
                + "errorPosition() = 0; visits() = 0; pushLocal(-4) = 1; declareFrame(0, true) = 1; check() = 0;"
                + "pushLocal(32) = 1; declareFrame(0, true) = 1; check() = 10; pushLocal(-4) = 1; pushLocal(0) = 2;"
                + "declareFrame(0, true) = 1; check() = 10; pushStack(0) = 1; declareFrame(0, true) = 1; check() = 10;"
                + "errorPosition() = 0; visits() = 0");
    }

    private static void targets() {
        run("a target needs a declared frame").due("begin(0, 1, 1) = 0").code(1, 0, 23, 3, 0, 0, 30, 0)
                .due("check() = 10; errorPosition() = 1; visits() = 2; declareFrame(2, false) = 1; check() = 10;"
                + "errorPosition() = 1; declareFrame(3, false) = 2; check() = 0; visits() = 4; pushLocal(0) = 1;"
                + "declareFrame(3, false) = 2; check() = 10; errorPosition() = 1; visits() = 2");
        run("the next instruction as a target").due("begin(0, 1, 1) = 0").code(22, 1, 1, 0, 23, 3, 30, 0)
                .due("check() = 10; errorPosition() = 0; declareFrame(1, false) = 1; check() = 10; errorPosition() = 2;"
                + "visits() = 3; declareFrame(3, false) = 2; check() = 0; visits() = 4");
        run("backward").due("begin(0, 1, 1) = 0").code(1, 0, 7, 0, 22, 1)
                .due("check() = 10; errorPosition() = 2; pushStack(0) = 1; declareFrame(1, false) = 1; check() = 10;"
                + "errorPosition() = 2; begin(0, 1, 1) = 0").code(1, 0, 7, 0, 22, 2)
                .due("pushLocal(0) = 1; declareFrame(2, false) = 1; check() = 0; declareFrame(2, false) = 1; check() = 0;"
                + "pushLocal(-1) = 1; declareFrame(2, false) = 1; check() = 10; errorPosition() = 2; visits() = 2");
        run("each instruction once").due("begin(0, 1, 1) = 0").code(1, 0, 7, 0, 3, 0, 9, 0, 22, 2)
                .due("declareFrame(2, false) = 1; check() = 0; visits() = 5; infer() = 0; visits() = 7; check() = 0;"
                + "visits() = 5");
    }

    private static void handlers() {
        Run run = run("a handler's target").due("begin(0, 1, 1) = 0").code(1, 0, 7, 0, 30, 0, 9, 0, 30, 0)
                .due("addHandler(0, 2, 3, 4) = 0; check() = 10; errorPosition() = 0; visits() = 1;"
                + "declareFrame(3, false) = 1; check() = 10; errorPosition() = 0; pushStack(40) = 1;"
                + "declareFrame(3, false) = 1; check() = 10; errorPosition() = 0; pushStack(24) = 1;"
                + "declareFrame(3, false) = 1; check() = 0; visits() = 5; pushLocal(0) = 1; pushStack(24) = 1;"
                + "declareFrame(3, false) = 1; check() = 10; errorPosition() = 0");
        run.due("begin(0, 1, 1) = 0").code(1, 0, 7, 0, 0, 0, 30, 0, 9, 0, 30, 0)
                .due("addHandler(2, 4, 4, 4) = 0; pushLocal(0) = 1; pushStack(32) = 1; declareFrame(4, false) = 1;"
                + "check() = 0; addHandler(1, 4, 4, 4) = 1; check() = 10; errorPosition() = 1; visits() = 2");
        run("the declared frame goes to the handler").due("begin(0, 1, 1) = 0").code(1, 0, 7, 0, 30, 0, 31, 0)
                .due("addHandler(2, 3, 3, 2) = 0; declareFrame(2, false) = 1; pushLocal(0) = 1; pushStack(16) = 1;"
                + "declareFrame(3, false) = 2; check() = 10; errorPosition() = 2; visits() = 3; pushLocal(0) = 1;"
                + "declareFrame(2, false) = 2; check() = 0");
        run("the mark goes to the handler").due("begin(1, 1, 1) = 1").code(6, 0, 35, 2, 30, 0, 31, 0)
                .due("addHandler(0, 1, 3, 2) = 0; pushStack(16) = 1; declareFrame(3, false) = 1; check() = 10;"
                + "errorPosition() = 0; pushStack(16) = 1; declareFrame(3, true) = 1; check() = 0;"
                + "begin(1, 1, 1) = 1").code(6, 0, 35, 2, 30, 0, 31, 0)
                .due("addHandler(2, 3, 3, 2) = 0; pushStack(16) = 1; declareFrame(3, false) = 1; check() = 0");
        run("no room").due("begin(0, 0, 0) = 0").code(30, 0)
                .due("addHandler(0, 1, 0, 2) = 0; check() = 6; errorPosition() = 0; visits() = 1");
    }

    private static void unreached() {
        for (int op : new int[] {22, 30}) {
            run("no present frame behind " + op).due("begin(0, 1, 1) = 0").code(op, 0, 0, 0, 30, 0)
                    .due("declareFrame(0, false) = 1; check() = 10; errorPosition() = 1; visits() = 1;"
                    + "declareFrame(2, false) = 2; check() = 10; errorPosition() = 1; declareFrame(1, true) = 3;"
                    + "check() = 10; errorPosition() = 2; visits() = 2; declareFrame(2, true) = 3; check() = 9;"
                    + "errorPosition() = 2; visits() = 3; declareFrame(1, false) = 3; declareFrame(2, false) = 3;"
                    + "check() = 0; visits() = 3; infer() = 0; visits() = 1");
        }
        run("behind ATHROW").due("begin(0, 1, 1) = 0").code(3, 0, 31, 0, 30, 0)
                .due("check() = 10; errorPosition() = 2; visits() = 2; declareFrame(2, false) = 1; check() = 0");
        run("behind ARETURN").due("declareMethod(2, 1, 24) = 3; declareMethod(2, 1, 0) = 4; declareMethod(2, 1, 8) = 5;"
                + "begin(3, 1, 1) = 0").code(3, 0, 29, 0, 0, 0).due("check() = 10; errorPosition() = 2")
                .due("begin(4, 1, 1) = 0").code(1, 0, 27, 0, 0, 0).due("check() = 10; errorPosition() = 2")
                .due("begin(5, 2, 1) = 0").code(2, 0, 28, 0, 0, 0).due("check() = 10; errorPosition() = 2");
    }

    /** A frame with this slot flows to a target where the other slot is declared. */
    private static void flows(String from, String to, boolean isAllowed) {
        for (String call : new String[] {"pushLocal", "pushStack"}) {
            Run run = run(from + " to " + to + " by " + call).due("begin(0, 2, 2) = 0").code(30, 0, 22, 2, 22, 2);
            for (String slot : from.split(" ")) {
                run.make(call + "(" + slot + ")");
            }
            run.due("declareFrame(1, false) = 1");
            for (String slot : to.split(" ")) {
                run.make(call + "(" + slot + ")");
            }
            run.due("declareFrame(2, false) = 2; check() = " + (isAllowed ? "0" : "10; errorPosition() = 1; visits() = 2"));
        }
    }

    private static void assignability() {
        for (String slot : new String[] {"0", "8 -3", "-1", "-4", "-10", "16", "24", "1"}) {
            flows(slot, slot, true);
            flows(slot, slot.length() > 3 ? "-2 -2" : "-2", true);
        }
        flows("-2", "0", false);
        flows("-2", "16", false);
        flows("-2 -2", "8 -3", false);
        flows("0 0", "8 -3", false);
        flows("8 -3", "0 0", false);
        flows("-1", "24", true);
        flows("-1", "0", false);
        flows("24", "-1", false);
        flows("32", "24", true);
        flows("24", "32", false);
        flows("33", "25", true);
        flows("1", "16", true);
        flows("-4", "16", false);
        flows("-10", "16", false);
        flows("-10", "-11", false);
        flows("16 0", "16 -1", false);
        flows("0 16", "-1 16", false);
        run("heights").due("begin(0, 2, 2) = 0").code(30, 0, 22, 2, 22, 2)
                .due("pushStack(0) = 1; declareFrame(1, false) = 1; declareFrame(2, false) = 2; check() = 10;"
                + "errorPosition() = 1; declareFrame(1, false) = 2; pushStack(0) = 1; declareFrame(2, false) = 2;"
                + "check() = 10; errorPosition() = 1; pushStack(-2) = 1; declareFrame(1, false) = 2; pushStack(-2) = 1;"
                + "pushStack(-2) = 2; declareFrame(2, false) = 2; check() = 10; errorPosition() = 1");
    }

    private static void marks() {
        run("the mark").due("begin(0, 2, 2) = 0").code(30, 0, 22, 2, 22, 2)
                .due("declareFrame(1, false) = 1; declareFrame(2, true) = 2; check() = 0; declareFrame(1, true) = 2;"
                + "check() = 0; declareFrame(2, false) = 2; check() = 10; errorPosition() = 1; visits() = 2");
    }

    private static void order() {
        run("a declared frame at the next index is looked at later").due("begin(0, 1, 1) = 0")
                .code(1, 0, 23, 3, 0, 0, 30, 0).due("pushLocal(0) = 1; declareFrame(2, false) = 1; check() = 10;"
                + "errorPosition() = 1; declareFrame(3, false) = 2; check() = 10; errorPosition() = 2; visits() = 2");
        run("error 7 before the target").due("begin(0, 1, 1) = 0").code(1, 0, 23, 0)
                .due("check() = 7; errorPosition() = 1; visits() = 2");
        run("a handler before the instruction").due("begin(0, 1, 1) = 0").code(10, 0)
                .due("addHandler(0, 1, 0, 2) = 0; check() = 10; begin(0, 1, 1) = 0").code(10, 0).due("check() = 3");
        run("the instruction before the target").due("begin(0, 1, 1) = 0").code(23, 0)
                .due("check() = 3; errorPosition() = 0");
    }

    private static void inferredFramesStay() {
        run("inferred frames").due("begin(0, 1, 1) = 0").code(1, 0, 7, 0, 22, 2)
                .due("infer() = 0; check() = 10; hasFrame(2) = true; localSlot(2, 0) = 0; adoptFrames() = 1; check() = 0;"
                + "hasFrame(2) = true; pushLocal(0) = 1; pushStack(0) = 1; declareFrame(2, false) = 1; check() = 10;"
                + "localSlot(2, 0) = 0; stackHeight(2) = 0; stackHeight(1) = 1");
    }
}
