/** Edges of the promises 12 to 15: pushLocal, pushStack, declareFrame, adoptFrames. */
final class FrameEdges {
    private static final int MIN = Edges.MIN;
    private static final int MAX = Edges.MAX;
    private static final String STATIC_VOID = "declareMethod(2, 1, -1) = 0;";

    private FrameEdges() {
    }

    static void run() {
        pendingSlots("12", "pushLocal", "pushStack", "Adds a slot to the list of pending local variables, which is empty at"
                + " first", "Returns the number of pending local variables");
        pendingSlots("13", "pushStack", "pushLocal", "Adds a slot to the list of pending stack slots (from the bottom), which"
                + " is empty at first", "Returns the number of pending stack slots");
        slotsInOrder();
        declaredInPlace();
        missingLocals();
        emptyAfterwards();
        declaredCounts();
        declareRefused();
        wellFormed();
        adoptNothing();
        adoptAtJumps();
        adoptAtHandlers();
        adoptBehindEnds();
        adoptInstead();
    }

    private static Run edge(String promises, String quote) {
        return Edges.edge(promises, quote);
    }

    // ---- pushLocal and pushStack

    private static void pendingSlots(String promise, String push, String other, String adds, String returns) {
        edge(promise, adds).due(push + "(0) = 1; declareClass(2, false) = 3;" + STATIC_VOID + push + "(24) = 2;"
                + "begin(0, 12, 12) = 0; emit(30, 0) = 0; infer() = 0; check() = 0; adoptFrames() = 0; " + push + "(-2) = 3;"
                + "declareFrame(0, false) = 1; " + push + "(0) = 1");
        Run counts = edge(promise, returns);
        for (int count = 1; count <= 12; count++) {
            counts.due(push + "(-2) = " + count + "; " + other + "(16) = " + count);
        }
        Run wrong = edge(promise, "Throws IllegalArgumentException if value is not a slot value");
        for (int value : new int[] {5, 7, 13, 21, 24, -5, -6, -9, -110, -111, MIN, MAX}) {
            wrong.due(push + "(" + value + ") = IAE");
        }
        int[] right = {0, 4, 8, 20, -1, -2, -3, -4, -10, -109};
        for (int k = 0; k < right.length; k++) {
            wrong.due(push + "(" + right[k] + ") = " + (k + 1));
        }
        Run full = edge(promise, "Throws IllegalStateException if there are 12").make((push + "(0);").repeat(11));
        full.due(push + "(0) = 12; " + push + "(0) = ISE; " + push + "(-2) = ISE; " + push + "(-5) = IAE; " + other
                + "(0) = 1; declareFrame(0, false) = IOOBE; " + push + "(0) = 1");
    }

    /** The slots come into the frame in the order in which they were pushed. */
    private static void slotsInOrder() {
        edge("13", "Adds a slot to the list of pending stack slots (from the bottom)").due(STATIC_VOID + "begin(0, 3, 3) = 0")
                .code(30, 0, 7, 0, 8, 0, 30, 0).due("pushStack(8) = 1; pushStack(-3) = 2; pushStack(0) = 3;"
                + "declareFrame(1, false) = 1; check() = 0; pushStack(0) = 1; pushStack(8) = 2;"
                + "pushStack(-3) = 3; declareFrame(1, false) = 1; check() = 4; errorPosition() = 1");
        edge("12", "Adds a slot to the list of pending local variables").due(STATIC_VOID + "begin(0, 3, 3) = 0")
                .code(30, 0, 4, 0, 5, 1, 31, 0).due("pushLocal(0) = 1; pushLocal(8) = 2; pushLocal(-3) = 3;"
                + "declareFrame(1, false) = 1; check() = 4; errorPosition() = 3; pushLocal(8) = 1; pushLocal(-3) = 2;"
                + "pushLocal(0) = 3; declareFrame(1, false) = 1; check() = 5; errorPosition() = 1");
    }

    // ---- declareFrame

    private static void declaredInPlace() {
        edge("14", "Declares a frame at an index, in place of one that was declared there").due(STATIC_VOID
                + "begin(0, 1, 1) = 0").code(0, 0, 4, 0, 10, 0, 30, 0).due("check() = 5; errorPosition() = 1;"
                + "pushLocal(0) = 1; declareFrame(1, false) = 1; check() = 10; errorPosition() = 1; pushLocal(0) = 1;"
                + "declareFrame(0, false) = 2; check() = 10; errorPosition() = 0; declareFrame(0, false) = 2; check() = 10;"
                + "errorPosition() = 1; declareFrame(1, false) = 2; check() = 5; errorPosition() = 1; pushLocal(0) = 1;"
                + "declareFrame(3, false) = 3; pushLocal(0) = 1; pushLocal(0) = 2; declareFrame(3, false) = IAE;"
                + "declareFrame(1, true) = 3; check() = 5");
    }

    private static void missingLocals() {
        String quote = "It has the pending local variables (those that are missing are TOP) and the pending stack slots";
        edge("14", quote).due("parameter(0) = 1; parameter(0) = 2; declareMethod(2, 1, -1) = 0; begin(0, 1, 2) = 2")
                .code(21, 0, 21, 1, 30, 0).due("check() = 0; pushLocal(0) = 1; pushLocal(0) = 2;"
                + "declareFrame(1, false) = 1; check() = 0; pushLocal(0) = 1; declareFrame(1, false) = 1; check() = 5;"
                + "errorPosition() = 1; pushLocal(0) = 1; declareFrame(0, false) = 2; check() = 5; errorPosition() = 1;"
                + "declareFrame(0, false) = 2; check() = 5; errorPosition() = 0");
        // all twelve are missing, then all but the last, then none
        Run twelve = edge("14", quote).due(STATIC_VOID + "begin(0, 1, 12) = 0").code(30, 0, 6, 11, 30, 0);
        twelve.due("declareFrame(1, false) = 1; check() = 5; errorPosition() = 1");
        twelve.make("pushLocal(16);".repeat(11)).due("declareFrame(1, false) = 1; check() = 5; errorPosition() = 1");
        twelve.make("pushLocal(16);".repeat(12)).due("declareFrame(1, false) = 1; check() = 0");
        twelve.make("pushLocal(16);".repeat(11)).due("declareFrame(1, false) = 1; check() = 5");
        edge("14", quote).due(STATIC_VOID + "begin(0, 2, 0) = 0").code(30, 0, 16, 0, 10, 0, 30, 0)
                .due("pushStack(0) = 1; pushStack(0) = 2; declareFrame(1, false) = 1; check() = 0; pushStack(0) = 1;"
                + "declareFrame(1, false) = 1; check() = 3; errorPosition() = 1; declareFrame(1, false) = 1; check() = 3");
    }

    private static void emptyAfterwards() {
        String quote = "Both lists are empty afterwards in any case";
        String fill = "pushLocal(0) = 1; pushLocal(0) = 2; pushStack(0) = 1; pushStack(0) = 2; pushStack(0) = 3;";
        edge("14", quote).due(fill + "declareFrame(0, false) = IOOBE;" + fill + STATIC_VOID + "begin(0, 3, 2) = 0;"
                + "declareFrame(0, false) = IOOBE;" + fill + "emit(30, 0) = 0; declareFrame(1, false) = IOOBE;" + fill
                + "declareFrame(-1, false) = IOOBE;" + fill + "declareFrame(0, false) = 1;" + fill + "pushStack(0) = 4;"
                + "declareFrame(0, false) = IAE;" + fill + "pushLocal(0) = 3; declareFrame(0, false) = IAE; pushLocal(8) = 1;"
                + "pushStack(0) = 1; declareFrame(0, false) = IAE;" + fill);
        edge("14", "A method that throws an exception changes nothing, except that declareMethod and declareFrame empty the"
                + " pending lists").due(STATIC_VOID + "begin(0, 1, 1) = 0").code(30, 0, 21, 0, 22, 3, 30, 0).due(
                "pushLocal(0) = 1; declareFrame(1, false) = 1; check() = 10; errorPosition() = 2; pushLocal(8) = 1;"
                + "parameter(0) = 1; declareFrame(1, true) = IAE; check() = 10; errorPosition() = 2; pushStack(0) = 1;"
                + "pushStack(0) = 2; declareFrame(3, false) = IAE; check() = 10; errorPosition() = 2; parameter(0) = 2;"
                + "pushLocal(0) = 1; declareFrame(4, true) = IOOBE; declareFrame(3, false) = 2; check() = 0");
    }

    private static void declaredCounts() {
        Run run = edge("14", "Returns the number of indices with a declared frame").due(STATIC_VOID + "begin(0, 1, 1) = 0");
        run.make("emit(30, 0);".repeat(100));
        for (int index = 99; index >= 0; index--) {
            run.due("declareFrame(" + index + ", " + (index % 2 == 0) + ") = " + (100 - index));
        }
        run.due("declareFrame(0, false) = 100; declareFrame(99, false) = 100; declareFrame(100, false) = IOOBE;"
                + "declareFrame(50, true) = 100");
    }

    private static void declareRefused() {
        String noIndex = "Throws IndexOutOfBoundsException if the code has no instruction with this index, or no code was"
                + " started";
        Run run = edge("14", noIndex).due("declareFrame(0, false) = IOOBE; declareFrame(-1, true) = IOOBE;" + STATIC_VOID
                + "declareFrame(0, false) = IOOBE; begin(0, 1, 1) = 0; declareFrame(0, false) = IOOBE; emit(30, 0) = 0;"
                + "emit(30, 0) = 1");
        for (int index : new int[] {-1, 2, 3, 99, 100, MIN, MAX}) {
            run.due("declareFrame(" + index + ", false) = IOOBE; pushLocal(8) = 1; declareFrame(" + index + ", false) = IOOBE");
        }
        run.due("declareFrame(0, false) = 1; declareFrame(1, false) = 2; begin(0, 1, 1) = 0; declareFrame(0, false) = IOOBE");
        String tooMany = "Throws IllegalArgumentException if there are more local variables or stack slots than the code has,"
                + " or the frame is not well formed";
        for (int size : new int[] {0, 1, 11, 12}) {
            Run sizes = edge("14", tooMany).due(STATIC_VOID + "begin(0, " + size + ", " + size + ") = 0; emit(30, 0) = 0");
            sizes.make("pushLocal(-2);".repeat(size)).make("pushStack(-2);".repeat(size));
            sizes.due("declareFrame(0, false) = 1");
            if (size < 12) {
                sizes.make("pushLocal(-2);".repeat(size + 1)).due("declareFrame(0, false) = IAE");
                sizes.make("pushStack(-2);".repeat(size + 1)).due("declareFrame(0, false) = IAE");
                sizes.make("pushLocal(-2);".repeat(12)).due("declareFrame(0, false) = IAE");
                sizes.make("pushStack(-2);".repeat(12)).due("declareFrame(0, false) = IAE; declareFrame(0, false) = 1");
            }
        }
    }

    private static void wellFormed() {
        String quote = "Declared frames are well formed: in the local variables and on the stack, each LONG is followed by"
                + " HIGH, and each HIGH follows a LONG";
        int[][] wrong = {{8}, {8, 0}, {8, -2}, {8, 8}, {8, 8, -3}, {8, -3, 8}, {8, -3, -3}, {-3}, {-3, 8}, {0, -3}, {-2, -3},
            {-1, -3}, {9, -3}, {0, 8}, {16, 8, 16}, {-3, -3}};
        int[][] right = {{}, {8, -3}, {0, 8, -3}, {8, -3, 8, -3}, {8, -3, 0}, {9, 12}, {0, 0, 8, -3}, {8, -3, -2, -4}};
        for (String push : new String[] {"pushLocal", "pushStack"}) {
            Run run = edge("14", quote).due(STATIC_VOID + "begin(0, 4, 4) = 0; emit(30, 0) = 0");
            for (int[] slots : wrong) {
                pushAll(run, push, slots).due("declareFrame(0, false) = IAE");
            }
            for (int[] slots : right) {
                pushAll(run, push, slots).due("declareFrame(0, false) = 1");
            }
            // a LONG that would need a slot behind the last one
            for (int size = 1; size <= 12; size++) {
                Run last = edge("14", quote).due(STATIC_VOID + "begin(0, " + size + ", " + size + ") = 0; emit(30, 0) = 0");
                last.make((push + "(0);").repeat(size - 1)).make(push + "(8)").due("declareFrame(0, false) = IAE");
                if (size > 1) {
                    last.make((push + "(0);").repeat(size - 2)).make(push + "(8);" + push + "(-3)");
                    last.due("declareFrame(0, false) = 1");
                }
            }
        }
        edge("14", quote).due(STATIC_VOID + "begin(0, 4, 4) = 0; emit(30, 0) = 0; pushLocal(8) = 1; pushStack(-3) = 1;"
                + "declareFrame(0, false) = IAE; pushLocal(8) = 1; pushLocal(-3) = 2; pushStack(-3) = 1;"
                + "declareFrame(0, false) = IAE; pushLocal(8) = 1; pushStack(8) = 1; pushStack(-3) = 2;"
                + "declareFrame(0, false) = IAE; pushLocal(8) = 1; pushLocal(-3) = 2; pushStack(8) = 1; pushStack(-3) = 2;"
                + "declareFrame(0, false) = 1");
    }

    private static Run pushAll(Run run, String push, int... slots) {
        for (int slot : slots) {
            run.make(push + "(" + slot + ")");
        }
        return run;
    }

    // ---- adoptFrames

    private static void adoptNothing() {
        edge("15", "Throws IllegalStateException if there are no inferred frames").due("adoptFrames() = ISE;" + STATIC_VOID
                + "begin(0, 1, 1) = 0; adoptFrames() = ISE; emit(30, 0) = 0; adoptFrames() = ISE; declareFrame(0, false) = 1;"
                + "check() = 0; adoptFrames() = ISE; declareFrame(0, false) = 1; infer() = 0; emit(30, 0) = 1;"
                + "adoptFrames() = ISE; infer() = 0; addHandler(0, 1, 0, 2) = 0; adoptFrames() = ISE; infer() = 8;"
                + "adoptFrames() = ISE; declareFrame(0, false) = 1; begin(0, 1, 1) = 0; emit(30, 0) = 0; infer() = 0;"
                + "begin(0, 1, 1) = 0; adoptFrames() = ISE; emit(30, 0) = 0; infer() = 0; adoptFrames() = 0");
    }

    private static void adoptAtJumps() {
        String quote = "at each target of a jump whose own index has an inferred frame";
        for (int op = 22; op <= 26; op++) {
            // the jump at 2 is reached, the one at 4, to 6, is not; 3 is the next instruction, which ends
            String values = op == 25 || op == 26 ? "emit(3, 0) = 0; emit(3, 0) = 1;" : "emit(1, 0) = 0; emit(1, 0) = 1;";
            boolean takesTwo = op == 24 || op == 26;
            edge("15", quote).due(STATIC_VOID + "begin(0, 2, 1) = 0;" + values).code(op, 5, 30, 0, op, 6, 30, 0, 30, 0)
                    .due("infer() = 0; adoptFrames() = 1; declareFrame(5, false) = 1; declareFrame(6, false) = 2;"
                    + "infer() = 0; stackHeight(5) = " + (takesTwo ? 0 : op == 22 ? 2 : 1) + "; adoptFrames() = 1");
        }
        edge("15", quote).due(STATIC_VOID + "begin(0, 1, 1) = 0").code(22, 1, 22, 1).due("infer() = 0; adoptFrames() = 1;"
                + "check() = 0; begin(0, 1, 1) = 0").code(22, 0).due("infer() = 0; adoptFrames() = 1; check() = 0;"
                + "begin(0, 1, 1) = 0").code(1, 0, 23, 2, 30, 0).due("infer() = 0; adoptFrames() = 1;"
                + "declareFrame(2, false) = 1; check() = 0");
        // the target has a frame, but the jump has none
        edge("15", quote).due(STATIC_VOID + "begin(0, 1, 1) = 0").code(0, 0, 0, 0, 30, 0, 22, 1).due("infer() = 0;"
                + "hasFrame(1) = true; adoptFrames() = 0; declareFrame(1, false) = 1");
        Run all = edge("15", "Returns the number of indices with a declared frame").due(STATIC_VOID + "begin(0, 1, 1) = 0");
        for (int index = 0; index < 100; index++) {
            all.code(22, (index + 1) % 100);
        }
        all.due("infer() = 0; visits() = 100; adoptFrames() = 100; check() = 0; visits() = 100; digest() = "
                + allFrames(100, 100));
    }

    /** The digest of an object with one method whose code has frames with one local variable TOP. */
    private static long allFrames(int count, int declared) {
        long[] numbers = new long[6 + 4 * count];
        long[] head = {3, 0, 1, count, 0, declared};
        System.arraycopy(head, 0, numbers, 0, 6);
        for (int index = 0; index < count; index++) {
            numbers[6 + 4 * index] = 1;
            numbers[8 + 4 * index] = -2;
        }
        return Edges.sum(numbers);
    }

    private static void adoptAtHandlers() {
        String quote = "at each target of a handler whose range contains an index with an inferred frame";
        // 1 and 2 are not reached; 4 and 5 end the code
        int[] code = {22, 3, 0, 0, 30, 0, 30, 0, 31, 0, 31, 0};
        edge("15", quote).due(STATIC_VOID + "begin(0, 1, 1) = 0").code(code).due("addHandler(1, 3, 4, 2) = 0;"
                + "infer() = 0; adoptFrames() = 1; addHandler(3, 4, 5, 2) = 1; infer() = 0; adoptFrames() = 2;"
                + "declareFrame(5, false) = 2; declareFrame(4, false) = 3");
        edge("15", quote).due(STATIC_VOID + "begin(0, 1, 1) = 0").code(code).due("addHandler(1, 4, 4, 2) = 0;"
                + "infer() = 0; adoptFrames() = 2; check() = 10; errorPosition() = 1; begin(0, 1, 1) = 0").code(code)
                .due("addHandler(0, 3, 4, 2) = 0; infer() = 0; adoptFrames() = 2; begin(0, 1, 1) = 0").code(code)
                .due("addHandler(0, 1, 4, 2) = 0; addHandler(4, 5, 5, 2) = 1; infer() = 0; adoptFrames() = 3;"
                + "begin(0, 1, 1) = 0").code(3, 0, 10, 0, 30, 0).due("infer() = 0; adoptFrames() = 0;"
                + "addHandler(0, 1, 1, 2) = 0; infer() = 0; adoptFrames() = 1; check() = 0");
        // each handler with its own range and target: 3 is a target, 1 only that of a handler whose range is not reached
        edge("15", quote).due(STATIC_VOID + "begin(0, 1, 1) = 0").code(3, 0, 10, 0, 3, 0, 10, 0, 30, 0, 30, 0).due(
                "addHandler(5, 6, 1, 2) = 0; addHandler(2, 3, 3, 2) = 1; infer() = 0; adoptFrames() = 1; check() = 10;"
                + "errorPosition() = 5; declareFrame(3, false) = 1; check() = 10; errorPosition() = 2;"
                + "begin(0, 1, 1) = 0").code(3, 0, 10, 0, 3, 0, 10, 0, 30, 0).due("addHandler(0, 1, 1, 2) = 0;"
                + "addHandler(2, 3, 3, 2) = 1; infer() = 0; adoptFrames() = 2; check() = 0");
        // the target has a frame, but not from the handler, whose range is not reached
        edge("15", quote).due(STATIC_VOID + "begin(0, 1, 1) = 0").code(0, 0, 0, 0, 30, 0, 30, 0).due("addHandler(3, 4, 1, 2) = 0;"
                + "infer() = 0; hasFrame(1) = true; adoptFrames() = 0; declareFrame(1, false) = 1");
    }

    private static void adoptBehindEnds() {
        // what is behind an end and has a frame is a target too; what has none is left out
        edge("15", "at each index with an inferred frame directly behind an instruction that does not have the next"
                + " instruction as a successor").due(STATIC_VOID + "begin(0, 1, 1) = 0")
                .code(1, 0, 23, 3, 30, 0, 22, 5, 30, 0, 30, 0, 30, 0).due("infer() = 0; adoptFrames() = 2; check() = 10;"
                + "errorPosition() = 4; declareFrame(3, false) = 2; declareFrame(5, false) = 2;"
                + "declareFrame(4, false) = 3; declareFrame(6, false) = 4; check() = 0");
    }

    private static void adoptInstead() {
        String quote = "Removes all declared frames and declares inferred ones instead";
        edge("15", quote).due(STATIC_VOID + "begin(0, 1, 1) = 0").code(1, 0, 7, 0, 22, 3, 21, 0, 30, 0)
                .due("declareFrame(0, false) = 1; declareFrame(3, false) = 2; declareFrame(4, true) = 3; check() = 5;"
                + "errorPosition() = 3; infer() = 0; adoptFrames() = 1; check() = 0; declareFrame(4, true) = 2; check() = 9;"
                + "adoptFrames() = 1; check() = 0; hasFrame(3) = true; localSlot(3, 0) = 0");
        edge("15", quote).due(STATIC_VOID + "begin(0, 1, 1) = 0").code(30, 0, 30, 0).due("declareFrame(0, true) = 1;"
                + "declareFrame(1, false) = 2; infer() = 0; adoptFrames() = 0; check() = 10; errorPosition() = 1;"
                + "declareFrame(1, false) = 1; check() = 0");
        // the mark and the stack are taken over, and what is inferred later does not change them
        edge("15", quote).due("declareClass(2, false) = 3; declareMethod(3, 2, -1) = 0; declareMethod(2, 2, -1) = 1;"
                + "begin(0, 3, 1) = 1").code(6, 0, 2, 0, 22, 3, 11, 0, 35, 1, 30, 0).due("infer() = 0; isMarked(3) = true;"
                + "adoptFrames() = 1; check() = 0; emit(30, 0) = 6; declareFrame(6, false) = 2; check() = 0;"
                + "hasFrame(3) = false; pushLocal(-4) = 1; pushStack(-4) = 1; pushStack(8) = 2; pushStack(-3) = 3;"
                + "declareFrame(3, false) = 2; check() = 10; errorPosition() = 2; infer() = 0; check() = 10;"
                + "adoptFrames() = 1; declareFrame(6, false) = 2; check() = 0");
    }
}
