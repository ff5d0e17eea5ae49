/** Promises 12 to 15: pushLocal, pushStack, declareFrame, adoptFrames. */
final class DeclaredFramesTest {
    private static final int MIN = Integer.MIN_VALUE;
    private static final int MAX = Integer.MAX_VALUE;
    private static final String STATIC_VOID = "declareMethod(2, 1, -1) = 0;";

    public static void main(String[] args) {
        pendingSlots("pushLocal");
        pendingSlots("pushStack");
        declareFrame();
        wellFormed();
        listsGo();
        missingLocals();
        adoptFrames();
        adoptAtHandlers();
        Run.end();
    }

    private static void pendingSlots(String push) {
        Run run = new Run(push);
        for (int value : new int[] {-5, -9, -110, 5, 24, 31, MAX, MIN}) {
            run.due(push + "(" + value + ") = IAE");
        }
        run.due("declareClass(2, true) = 3");
        int[] right = {-1, -2, -3, -4, -10, -109, 0, 4, 8, 12, 16, 28};
        for (int k = 0; k < right.length; k++) {
            run.due(push + "(" + right[k] + ") = " + (k + 1));
        }
        run.due(push + "(0) = ISE; " + push + "(-5) = IAE;" + push + "(" + MAX + ") = IAE");
        run.due((push.equals("pushLocal") ? "pushStack" : "pushLocal") + "(0) = 1");
    }

    private static void declareFrame() {
        new Run("declareFrame").due("declareFrame(0, false) = IOOBE;" + STATIC_VOID
                + "declareFrame(0, false) = IOOBE; begin(0, 2, 2) = 0; declareFrame(0, true) = IOOBE;"
                + "emit(0, 0) = 0; emit(0, 0) = 1; emit(30, 0) = 2; declareFrame(-1, false) = IOOBE;"
                + "declareFrame(3, false) = IOOBE; declareFrame(" + MAX + ", false) = IOOBE;"
                + "declareFrame(" + MIN + ", false) = IOOBE; declareFrame(1, false) = 1;"
                + "declareFrame(1, true) = 1; declareFrame(2, true) = 2; check() = 9; errorPosition() = 2;"
                + "declareFrame(1, false) = 2; declareFrame(2, false) = 2; check() = 0;"
                + "declareFrame(0, false) = 3; check() = 0; pushLocal(0) = 1; declareFrame(1, false) = 3;"
                + "check() = 10; errorPosition() = 1; visits() = 1; infer() = 0; declareFrame(1, false) = 3;"
                + "hasFrame(1) = true; stackHeight(1) = 0; check() = 0");
        new Run("too many slots").due(STATIC_VOID + "begin(0, 1, 2) = 0; emit(30, 0) = 0; pushLocal(0) = 1;"
                + "pushLocal(0) = 2; pushStack(0) = 1; declareFrame(0, false) = 1; pushLocal(0) = 1;"
                + "pushLocal(0) = 2; pushLocal(-2) = 3; declareFrame(0, false) = IAE; pushStack(0) = 1;"
                + "pushStack(0) = 2; declareFrame(0, false) = IAE; pushStack(0) = 1; pushStack(0) = 2;"
                + "declareFrame(1, false) = IOOBE");
    }

    private static void wellFormed() {
        int[][] wrong = {{8}, {-3}, {-3, 8}, {8, 0}, {8, 8}, {8, 8, -3}, {8, -3, -3}, {0, -3}, {0, 8}, {8, -2},
            {-3, 0}, {8, -3, 8}, {-2, -3}, {-1, -3}, {8, -3, 0, -3}};
        int[][] right = {{}, {8, -3}, {0, 8, -3}, {8, -3, 8, -3}, {-2, -4, -10, -109}, {-1, 16, 12, 4},
            {8, -3, 0, -2}, {0, 0, 8, -3}};
        Run run = new Run("well formed").due(STATIC_VOID + "begin(0, 4, 4) = 0; emit(30, 0) = 0");
        for (String push : new String[] {"pushLocal", "pushStack"}) {
            for (int[] slots : wrong) {
                pushAll(run, push, slots).due("declareFrame(0, false) = IAE");
            }
        }
        for (String push : new String[] {"pushLocal", "pushStack"}) {
            for (int[] slots : right) {
                pushAll(run, push, slots).due("declareFrame(0, false) = 1");
            }
        }
        Run full = new Run("well formed to the last slot").due(STATIC_VOID + "begin(0, 12, 12) = 0; emit(30, 0) = 0");
        for (String push : new String[] {"pushLocal", "pushStack"}) {
            pushAll(full, push, 0, 0, 0, 0, 0, 0, 0, 0, 0, 0, 0, 8).due("declareFrame(0, false) = IAE");
            pushAll(full, push, 0, 0, 0, 0, 0, 0, 0, 0, 0, 0, 8, -3).due("declareFrame(0, false) = 1");
        }
    }

    private static Run pushAll(Run run, String push, int... slots) {
        for (int k = 0; k < slots.length; k++) {
            run.due(push + "(" + slots[k] + ") = " + (k + 1));
        }
        return run;
    }

    private static void listsGo() {
        String fill = "pushLocal(0) = 1; pushLocal(16) = 2; pushStack(1) = 1;";
        new Run("lists are empty afterwards").due(fill + "declareFrame(0, false) = IOOBE;" + fill + STATIC_VOID
                + "begin(0, 1, 2) = 0; emit(30, 0) = 0; declareFrame(1, false) = IOOBE;" + fill
                + "declareFrame(0, false) = 1;" + fill + "pushStack(1) = 2; declareFrame(0, false) = IAE;" + fill
                + "pushLocal(1) = 3; declareFrame(0, false) = IAE;" + fill);
    }

    private static void missingLocals() {
        new Run("missing local variables are TOP").due("parameter(0) = 1; declareMethod(2, 1, -1) = 0;"
                + "begin(0, 1, 2) = 1; emit(4, 0) = 0; emit(10, 0) = 1; emit(30, 0) = 2; check() = 0;"
                + "declareFrame(0, false) = 1; check() = 5; errorPosition() = 0; pushLocal(0) = 1;"
                + "declareFrame(0, false) = 1; check() = 0; pushLocal(0) = 1; pushLocal(0) = 2;"
                + "declareFrame(0, false) = 1; check() = 10; visits() = 0; pushLocal(0) = 1; pushLocal(-2) = 2;"
                + "declareFrame(0, false) = 1; check() = 0");
        new Run("no slots of a former frame").due(STATIC_VOID + "begin(0, 1, 2) = 0; emit(30, 0) = 0;"
                + "emit(6, 1) = 1; emit(10, 0) = 2; emit(30, 0) = 3; pushLocal(16) = 1; pushLocal(16) = 2;"
                + "declareFrame(1, false) = 1; check() = 0; pushLocal(16) = 1; declareFrame(1, false) = 1;"
                + "check() = 5; errorPosition() = 1");
    }

    /**
     * 0 GOTO 3, 1 NOP and 2 RETURN unreached, 3 LCONST, 4 POP2, 5 ANULL, 6 IFNULL 9, 7 ICONST,
     * 8 IFEQ 10, 9 NOP, 10 RETURN, 11 GOTO 1.
     */
    private static void adoptFrames() {
        Run run = new Run("adoptFrames").due("adoptFrames() = ISE;" + STATIC_VOID + "adoptFrames() = ISE;"
                + "begin(0, 4, 2) = 0; adoptFrames() = ISE; infer() = 7; adoptFrames() = ISE");
        run.code(22, 3, 0, 0, 30, 0, 2, 0, 11, 0, 3, 0, 25, 9, 1, 0, 23, 10, 0, 0, 30, 0, 22, 1);
        run.due("adoptFrames() = ISE; declareFrame(1, false) = 1; declareFrame(5, false) = 2; infer() = 0;"
                + "visits() = 9; adoptFrames() = 3; check() = 10; errorPosition() = 1;"
                + "declareFrame(9, false) = 3; declareFrame(10, false) = 3; declareFrame(3, false) = 3;"
                + "declareFrame(1, false) = 4; declareFrame(11, false) = 5; check() = 0; adoptFrames() = 3;"
                + "hasFrame(9) = true; adoptFrames() = 3");
        new Run("behind the end").due(STATIC_VOID + "begin(0, 1, 1) = 0; emit(1, 0) = 0; emit(23, 3) = 1;"
                + "emit(30, 0) = 2; emit(30, 0) = 3; emit(30, 0) = 4; infer() = 0; adoptFrames() = 1;"
                + "declareFrame(3, false) = 1");
        new Run("a frame behind GOTO that nothing but a handler reaches").due(STATIC_VOID
                + "begin(0, 2, 1) = 0; emit(22, 2) = 0; emit(31, 0) = 1; emit(30, 0) = 2; addHandler(2, 3, 1, 2) = 0;"
                + "infer() = 0; adoptFrames() = 2; check() = 0; visits() = 3");
        new Run("adopted frames are copies").due(STATIC_VOID + "begin(0, 1, 1) = 0; emit(1, 0) = 0;"
                + "emit(7, 0) = 1; emit(22, 3) = 2; emit(21, 0) = 3; emit(30, 0) = 4; infer() = 0;"
                + "adoptFrames() = 1; check() = 0; emit(0, 0) = 5; infer() = 0; emit(0, 0) = 6; hasFrame(3) = false;"
                + "check() = 10; errorPosition() = 5; visits() = 5; pushLocal(0) = 1; declareFrame(3, false) = 1;"
                + "infer() = 0; localSlot(3, 0) = 0; declareFrame(3, false) = 1; localSlot(3, 0) = 0;"
                + "check() = 5; errorPosition() = 3");
        new Run("the mark and the stack are adopted").due("declareClass(2, false) = 3; declareMethod(3, 2, -1) = 0;"
                + "declareMethod(2, 2, -1) = 1; begin(0, 3, 2) = 1; emit(6, 0) = 0; emit(1, 0) = 1;"
                + "emit(22, 3) = 2; emit(10, 0) = 3; emit(35, 1) = 4; emit(30, 0) = 5; infer() = 0; adoptFrames() = 1;"
                + "check() = 0; isMarked(3) = true; stackHeight(3) = 2; pushLocal(-4) = 1; pushStack(-4) = 1;"
                + "pushStack(0) = 2; declareFrame(3, false) = 1; check() = 10; errorPosition() = 2;"
                + "adoptFrames() = 1; check() = 0");
    }

    /** A handler's target is adopted if an index in the range has a frame, though others have none. */
    private static void adoptAtHandlers() {
        Run run = new Run("handlers").due(STATIC_VOID + "begin(0, 1, 1) = 0");
        run.code(1, 0, 23, 4, 0, 0, 22, 6, 30, 0, 0, 0, 30, 0, 0, 0, 31, 0);
        new Run("a target that is also the next instruction").due(STATIC_VOID + "begin(0, 1, 1) = 0")
                .code(3, 0, 10, 0, 30, 0).due("infer() = 0; adoptFrames() = 0; addHandler(0, 1, 1, 2) = 0;"
                + "infer() = 0; adoptFrames() = 1; check() = 0; begin(0, 1, 1) = 0").code(3, 0, 0, 0, 10, 0, 30, 0, 30, 0)
                .due("addHandler(4, 5, 1, 2) = 0; infer() = 0; adoptFrames() = 0; addHandler(3, 5, 4, 2) = 1;"
                + "infer() = 0; adoptFrames() = 2; declareFrame(1, false) = 2; declareFrame(4, false) = 2");
        new Run("the only instruction").due(STATIC_VOID + "begin(0, 1, 1) = 0; emit(22, 0) = 0; infer() = 0;"
                + "adoptFrames() = 1; check() = 0");
        run.due("addHandler(5, 6, 7, 2) = 0; infer() = 0; hasFrame(5) = false; hasFrame(7) = false;"
                + "adoptFrames() = 2; addHandler(4, 6, 7, 2) = 1; infer() = 0; hasFrame(7) = true;"
                + "hasFrame(8) = true; adoptFrames() = 3");
    }
}
