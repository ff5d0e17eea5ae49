/** Edges of the promises 8 to 11: begin, emit, addHandler, instructionCount. */
final class CodeEdges {
    private static final int MIN = Edges.MIN;
    private static final int MAX = Edges.MAX;
    private static final String STATIC_VOID = "declareMethod(2, 1, -1) = 0;";

    private CodeEdges() {
    }

    static void run() {
        newCode();
        neededSlots();
        beginRefused();
        instructions();
        emitRefused();
        handlers();
        handlersRefused();
        counts();
    }

    private static Run edge(String promises, String quote) {
        return Edges.edge(promises, quote);
    }

    // ---- begin

    private static void newCode() {
        String quote = "Starts a new code, without instructions, handlers and declared frames, in place of the former one";
        // the former code was full, and its handler and its declared frame at 0 would be errors here
        Run run = edge("8", quote).due(STATIC_VOID + "begin(0, 1, 1) = 0");
        run.make("emit(30, 0);".repeat(100) + "addHandler(0, 1, 1, 2);" + "addHandler(0, 1, 0, 2);".repeat(9));
        run.due("pushLocal(0) = 1; declareFrame(0, true) = 1; declareFrame(99, true) = 2; infer() = 8; check() = 10;"
                + "begin(0, 1, 1) = 0; digest() = " + Edges.sum(3, 0, 1, 0, 0, 0) + "; instructionCount() = 0;"
                + "hasFrame(0) = IOOBE; infer() = 7; check() = 7; emit(30, 0) = 0; check() = 0; infer() = 0; visits() = 1;"
                + "addHandler(0, 1, 0, 2) = 0; declareFrame(0, false) = 1; declareFrame(1, false) = IOOBE");
        edge("8", quote).due(STATIC_VOID + "declareMethod(2, 1, 0) = 1; begin(0, 1, 1) = 0; emit(30, 0) = 0; infer() = 0;"
                + "hasFrame(0) = true; begin(1, 2, 2) = 0; adoptFrames() = ISE; hasFrame(0) = IOOBE; emit(1, 0) = 0;"
                + "hasFrame(0) = false; stackHeight(0) = ISE; adoptFrames() = ISE; emit(27, 0) = 1; infer() = 0;"
                + "localSlot(0, 1) = -2; localSlot(0, 2) = NSEE; begin(0, 1, 1) = 0").code(30, 0)
                .due("infer() = 0; localSlot(0, 1) = NSEE");
        edge("8", quote).due(STATIC_VOID + "begin(0, 1, 1) = 0; emit(30, 0) = 0; declareFrame(0, false) = 1; infer() = 0;"
                + "begin(1, 1, 1) = IOOBE; begin(0, 13, 1) = IAE; instructionCount() = 1; hasFrame(0) = true; digest() = "
                + Edges.sum(3, 0, 1, 1, 0, 1, 1, 0, -2, 0) + "; emit(30, 0) = 1; declareFrame(1, false) = 2");
    }

    private static void neededSlots() {
        String quote = "Returns the number of slots that the first frame needs for the object and the parameters";
        String full = "parameter(8) = 2; parameter(8) = 4; parameter(8) = 6;";
        edge("8", quote).due("declareClass(2, false) = 3; declareMethod(3, 0, 0) = 0; declareMethod(3, 1, 0) = 1;"
                + "declareMethod(3, 2, -1) = 2; declareMethod(2, 2, -1) = 3;" + full + "declareMethod(3, 0, 0) = 4;" + full
                + "declareMethod(3, 1, 0) = 5;" + full + "declareMethod(3, 2, -1) = 6; parameter(9) = 1;"
                + "declareMethod(3, 1, 0) = 7; begin(0, 0, 0) = 1; begin(1, 0, 0) = 0; begin(2, 0, 0) = 1; begin(3, 0, 0) = 1;"
                + "begin(4, 0, 0) = 7; begin(5, 0, 0) = 6; begin(6, 0, 0) = 7; begin(7, 12, 12) = 1; begin(4, 12, 12) = 7");
    }

    private static void beginRefused() {
        String noMethod = "Throws IndexOutOfBoundsException if there is no such method";
        Run run = edge("8", noMethod).due("begin(0, 1, 1) = IOOBE; begin(-1, 1, 1) = IOOBE;" + STATIC_VOID
                + "declareMethod(2, 1, 0) = 1; begin(1, 1, 1) = 0; begin(0, 1, 1) = 0");
        for (int method : new int[] {-1, 2, 3, 29, 30, MIN, MAX}) {
            run.due("begin(" + method + ", 1, 1) = IOOBE; begin(" + method + ", 13, -1) = IOOBE");
        }
        Run last = edge("8", noMethod).make("declareMethod(2, 1, 0);".repeat(30));
        last.due("begin(29, 0, 0) = 0; begin(30, 0, 0) = IOOBE; begin(-1, 0, 0) = IOOBE");
        String wrong = "Throws IllegalArgumentException if maxStack or locals is not 0 to 12, or the owner of the method is an"
                + " interface";
        Run sizes = edge("8", wrong).due(STATIC_VOID);
        for (int size : new int[] {-1, 13, 14, MIN, MAX}) {
            sizes.due("begin(0, " + size + ", 0) = IAE; begin(0, 0, " + size + ") = IAE; begin(0, " + size + ", 12) = IAE;"
                    + "begin(0, 12, " + size + ") = IAE");
        }
        sizes.due("emit(30, 0) = ISE; begin(0, 0, 0) = 0; begin(0, 12, 12) = 0; begin(0, 0, 12) = 0; begin(0, 12, 0) = 0;"
                + "begin(0, 1, 11) = 0; emit(30, 0) = 0; begin(0, -1, 1) = IAE; instructionCount() = 1");
        edge("8", wrong).due("declareClass(2, true) = 3; declareMethod(3, 0, -1) = 0; declareMethod(2, 0, -1) = 1;"
                + "begin(0, 1, 1) = IAE; emit(30, 0) = ISE; begin(1, 1, 1) = 1; begin(0, 1, 1) = IAE; emit(30, 0) = 0;"
                + "infer() = 0; localSlot(0, 0) = 16");
    }

    // ---- emit

    private static void instructions() {
        Run all = edge("9", "Appends an instruction").due(STATIC_VOID + "begin(0, 1, 1) = 0");
        for (int op = 0; op <= 45; op++) {
            all.due("instructionCount() = " + op + "; emit(" + op + ", " + (op % 2 == 0 ? MIN : MAX) + ") = " + op);
        }
        edge("9", "Returns its index").due(STATIC_VOID + "begin(0, 1, 1) = 0; emit(0, 0) = 0; emit(-1, 0) = IAE;"
                + "emit(46, 0) = IAE; emit(0, 0) = 1; begin(0, 1, 1) = 0; emit(0, 0) = 0");
        edge("9", "Inferred frames are discarded").due(STATIC_VOID + "begin(0, 1, 1) = 0; emit(30, 0) = 0; infer() = 0;"
                + "hasFrame(0) = true; emit(30, 0) = 1; hasFrame(0) = false; hasFrame(1) = false; stackHeight(0) = ISE;"
                + "adoptFrames() = ISE; infer() = 0; hasFrame(0) = true; emit(46, 0) = IAE; hasFrame(0) = true;"
                + "declareFrame(1, false) = 1; emit(30, 0) = 2; declareFrame(1, false) = 1; hasFrame(0) = false");
        Run full = edge("9", "Inferred frames are discarded").due(STATIC_VOID + "begin(0, 1, 1) = 0");
        full.make("emit(30, 0);".repeat(100)).due("infer() = 0; emit(0, 0) = ISE; emit(46, 0) = IAE; hasFrame(0) = true;"
                + "hasFrame(99) = false; adoptFrames() = 0");
    }

    private static void emitRefused() {
        Run ops = edge("9", "Throws IllegalArgumentException if op is not 0 to 45").due(STATIC_VOID + "begin(0, 1, 1) = 0");
        for (int op : new int[] {-1, 46, 47, 100, MIN, MAX}) {
            ops.due("emit(" + op + ", 0) = IAE");
        }
        ops.due("instructionCount() = 0; emit(0, 0) = 0; emit(45, 16) = 1; instructionCount() = 2");
        String quote = "Throws IllegalStateException if no code was started, or it has 100 instructions";
        edge("9", quote).due("emit(0, 0) = ISE; emit(45, 0) = ISE;" + STATIC_VOID + "emit(0, 0) = ISE;"
                + "begin(0, 13, 0) = IAE; emit(0, 0) = ISE; begin(0, 0, 0) = 0; emit(0, 0) = 0");
        Run full = edge("9", quote).due(STATIC_VOID + "begin(0, 1, 1) = 0").make("emit(0, 0);".repeat(99));
        full.due("emit(30, 0) = 99; emit(30, 0) = ISE; emit(0, 0) = ISE; instructionCount() = 100; infer() = 0;"
                + "visits() = 100; begin(0, 1, 1) = 0; emit(0, 0) = 0; instructionCount() = 1");
    }

    // ---- addHandler

    private static void handlers() {
        edge("10", "Adds a handler").due(STATIC_VOID + "begin(0, 1, 1) = 0; emit(30, 0) = 0; emit(31, 0) = 1;"
                + "infer() = 0; hasFrame(1) = false; addHandler(0, 1, 1, 2) = 0; infer() = 0; stackSlot(1, 0) = 16");
        edge("10", "Returns the number of the handler").due("declareClass(2, true) = 3;" + STATIC_VOID
                + "begin(0, 1, 1) = 0; addHandler(0, 1, 0, 2) = 0; addHandler(0, 1, 0, 3) = IAE; addHandler(0, 1, 0, 2) = 1;"
                + "addHandler(" + MIN + ", " + MAX + ", -1, 2) = 2; addHandler(" + MAX + ", " + MIN + ", " + MAX + ", 2) = 3;"
                + "begin(0, 1, 1) = 0; addHandler(0, 0, 0, 2) = 0");
        edge("10", "Inferred frames are discarded").due("declareClass(2, true) = 3;" + STATIC_VOID
                + "begin(0, 1, 1) = 0; emit(30, 0) = 0; emit(31, 0) = 1; declareFrame(1, false) = 1; infer() = 0;"
                + "addHandler(0, 1, 1, 3) = IAE; hasFrame(0) = true; addHandler(1, 2, 1, 2) = 0; hasFrame(0) = false;"
                + "stackHeight(0) = ISE; adoptFrames() = ISE; declareFrame(1, false) = 1");
        Run full = edge("10", "Inferred frames are discarded").due(STATIC_VOID + "begin(0, 1, 1) = 0; emit(30, 0) = 0;"
                + "emit(31, 0) = 1").make("addHandler(0, 1, 1, 2);".repeat(10));
        full.due("infer() = 0; addHandler(0, 1, 1, 2) = ISE; addHandler(0, 1, 1, 0) = IAE; hasFrame(0) = true;"
                + "hasFrame(1) = true; adoptFrames() = 1");
    }

    private static void handlersRefused() {
        Run run = edge("10", "Throws IllegalArgumentException if caught is not a class").due("declareClass(2, false) = 3;"
                + "declareClass(2, true) = 4; declareClass(3, false) = 5;" + STATIC_VOID + "begin(0, 1, 1) = 0");
        for (int caught : new int[] {-1, 0, 1, 4, 6, 19, 20, MIN, MAX}) {
            run.due("addHandler(0, 1, 0, " + caught + ") = IAE");
        }
        run.due("addHandler(0, 1, 0, 2) = 0; addHandler(0, 1, 0, 3) = 1; addHandler(0, 1, 0, 5) = 2");
        String quote = "Throws IllegalStateException if no code was started, or it has 10 handlers";
        edge("10", quote).due("addHandler(0, 1, 0, 2) = ISE;" + STATIC_VOID + "addHandler(0, 1, 0, 2) = ISE;"
                + "begin(0, 1, 13) = IAE; addHandler(0, 1, 0, 2) = ISE; begin(0, 0, 0) = 0; addHandler(0, 1, 0, 2) = 0");
        Run full = edge("10", quote).due(STATIC_VOID + "begin(0, 1, 1) = 0").make("addHandler(0, 1, 0, 2);".repeat(9));
        full.due("addHandler(0, 1, 0, 2) = 9; addHandler(0, 1, 0, 2) = ISE; addHandler(0, 0, 0, 2) = ISE; digest() = "
                + Edges.sum(3, 0, 1, 0, 10, 0) + "; begin(0, 1, 1) = 0; addHandler(0, 1, 0, 2) = 0");
    }

    private static void counts() {
        Run run = edge("11", "Returns the number of instructions of the code; 0 if none was started").due(
                "instructionCount() = 0; emit(0, 0) = ISE; instructionCount() = 0;" + STATIC_VOID + "instructionCount() = 0;"
                + "begin(0, 1, 1) = 0; instructionCount() = 0; emit(0, 0) = 0; instructionCount() = 1; emit(46, 0) = IAE;"
                + "addHandler(0, 1, 0, 2) = 0; declareFrame(0, false) = 1; infer() = 8; instructionCount() = 1");
        for (int count = 2; count <= 100; count++) {
            run.due("emit(0, 0) = " + (count - 1) + "; instructionCount() = " + count);
        }
        run.due("emit(0, 0) = ISE; instructionCount() = 100; begin(1, 1, 1) = IOOBE; instructionCount() = 100;"
                + "begin(0, 1, 1) = 0; instructionCount() = 0");
    }
}
