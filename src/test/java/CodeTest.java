/** Promises 8 to 11: begin, emit, addHandler, instructionCount. */
final class CodeTest {
    private static final int MIN = Integer.MIN_VALUE;
    private static final int MAX = Integer.MAX_VALUE;
    private static final String STATIC_VOID = "declareMethod(2, 1, -1) = 0;";

    public static void main(String[] args) {
        begin();
        beginAgain();
        emit();
        handlers();
        framesGo();
        Run.end();
    }

    private static void begin() {
        new Run("begin").due("declareClass(2, false) = 3; declareClass(2, true) = 4; begin(0, 1, 1) = IOOBE;"
                + "begin(0, 13, 13) = IOOBE; parameter(8) = 2; parameter(1) = 3; declareMethod(3, 0, -1) = 0;"
                + "parameter(8) = 2; declareMethod(3, 1, -1) = 1; parameter(0) = 1; declareMethod(3, 2, -1) = 2;"
                + "declareMethod(4, 0, -1) = 3; declareMethod(2, 2, -1) = 4; declareMethod(2, 1, 0) = 5;"
                + "begin(6, 1, 1) = IOOBE; begin(-1, 1, 1) = IOOBE; begin(" + MAX + ", 1, 1) = IOOBE;"
                + "begin(" + MIN + ", 1, 1) = IOOBE; begin(6, -1, 1) = IOOBE; begin(3, 1, 1) = IAE;"
                + "begin(0, 13, 1) = IAE; begin(0, -1, 1) = IAE; begin(0, 1, 13) = IAE; begin(0, 1, -1) = IAE;"
                + "begin(0, " + MAX + ", 1) = IAE; begin(0, 1, " + MIN + ") = IAE; emit(0, 0) = ISE;"
                + "begin(0, 0, 0) = 4; emit(0, 0) = 0; begin(0, 12, 12) = 4; begin(1, 12, 0) = 2;"
                + "begin(2, 0, 12) = 2; begin(4, 1, 1) = 1; begin(5, 1, 1) = 0");
    }

    private static void beginAgain() {
        new Run("begin again").due(STATIC_VOID + "declareMethod(2, 1, 0) = 1; begin(0, 2, 2) = 0;"
                + "emit(0, 0) = 0; emit(30, 0) = 1; emit(30, 0) = 2; addHandler(0, 1, 2, 2) = 0; infer() = 0;"
                + "check() = 10;"
                + "errorPosition() = 0; visits() = 1; declareFrame(1, false) = 1; hasFrame(1) = true;"
                + "pushLocal(0) = 1; pushStack(16) = 1; parameter(0) = 1; begin(1, 13, 2) = IAE;"
                + "begin(2, 1, 2) = IOOBE; instructionCount() = 3; hasFrame(1) = true;"
                + "begin(1, 1, 2) = 0; instructionCount() = 0; hasFrame(0) = IOOBE; adoptFrames() = ISE;"
                + "errorPosition() = 0; visits() = 1; emit(1, 0) = 0; emit(27, 0) = 1; hasFrame(1) = false;"
                + "infer() = 0; addHandler(1, 2, 1, 2) = 0; addHandler(0, 1, 0, 2) = 1;"
                + "pushLocal(0) = 2; pushStack(16) = 2; parameter(0) = 2; begin(1, 1, 2) = 0;"
                + "emit(1, 0) = 0; emit(27, 0) = 1; check() = 0; declareFrame(0, false) = IAE;"
                + "declareFrame(0, false) = 1");
        new Run("begin forgets frames").due(STATIC_VOID + "begin(0, 0, 0) = 0; emit(22, 1) = 0;"
                + "emit(30, 0) = 1; check() = 10; declareFrame(1, false) = 1; check() = 0; begin(0, 0, 0) = 0;"
                + "emit(22, 1) = 0; emit(30, 0) = 1; check() = 10; errorPosition() = 0;"
                + "declareFrame(1, false) = 1");
    }

    private static void emit() {
        Run run = new Run("emit").due("emit(0, 0) = ISE; emit(46, 0) = IAE; emit(-1, 0) = IAE;"
                + STATIC_VOID + "emit(0, 0) = ISE; begin(0, 12, 12) = 0; emit(-1, 0) = IAE; emit(46, 0) = IAE;"
                + "emit(" + MAX + ", 0) = IAE; emit(" + MIN + ", 0) = IAE; instructionCount() = 0");
        for (int op = 0; op <= 45; op++) {
            run.due("emit(" + op + ", " + (op % 2 == 0 ? MIN : MAX) + ") = " + op);
        }
        for (int index = 46; index < 100; index++) {
            run.due("emit(0, 0) = " + index + "; instructionCount() = " + (index + 1));
        }
        run.due("emit(0, 0) = ISE; emit(46, 0) = IAE; emit(-1, 0) = IAE; instructionCount() = 100;"
                + "infer() = 1; errorPosition() = 4; hasFrame(99) = false; hasFrame(100) = IOOBE");
    }

    private static void handlers() {
        Run run = new Run("handlers").due("addHandler(0, 1, 0, 2) = ISE; addHandler(0, 1, 0, 3) = IAE;"
                + "declareClass(2, true) = 3; declareClass(2, false) = 4;" + STATIC_VOID
                + "addHandler(0, 1, 0, 2) = ISE; begin(0, 1, 1) = 0; addHandler(0, 1, 0, 3) = IAE;"
                + "addHandler(0, 1, 0, 0) = IAE; addHandler(0, 1, 0, 1) = IAE; addHandler(0, 1, 0, 5) = IAE;"
                + "addHandler(0, 1, 0, -1) = IAE; addHandler(0, 1, 0, " + MAX + ") = IAE;"
                + "addHandler(0, 1, 0, " + MIN + ") = IAE; addHandler(0, 1, 0, 4) = 0;"
                + "addHandler(" + MIN + ", " + MAX + ", " + MIN + ", 2) = 1; infer() = 7;"
                + "errorPosition() = 0; emit(30, 0) = 0; infer() = 2; errorPosition() = 1");
        for (int handler = 2; handler < 10; handler++) {
            run.due("addHandler(0, 1, 0, 2) = " + handler);
        }
        run.due("addHandler(0, 1, 0, 2) = ISE; addHandler(0, 1, 0, 3) = IAE");
    }

    /** emit and addHandler discard inferred frames, but not if they throw; declared ones stay. */
    private static void framesGo() {
        new Run("inferred frames are discarded").due("declareClass(2, true) = 3;" + STATIC_VOID
                + "begin(0, 1, 1) = 0; emit(30, 0) = 0; declareFrame(0, false) = 1; infer() = 0;"
                + "hasFrame(0) = true; emit(46, 0) = IAE; hasFrame(0) = true; addHandler(0, 1, 0, 3) = IAE;"
                + "hasFrame(0) = true; emit(30, 0) = 1; hasFrame(0) = false; stackHeight(0) = ISE;"
                + "adoptFrames() = ISE; infer() = 0; hasFrame(0) = true; hasFrame(1) = false;"
                + "addHandler(1, 2, 0, 2) = 0; hasFrame(0) = false; adoptFrames() = ISE;"
                + "declareFrame(1, false) = 2; infer() = 0; errorPosition() = -1; declareClass(2, false) = 4;"
                + "declareMethod(2, 1, 0) = 1; declareField(2, 0) = 0; hasFrame(0) = true");
        Run full = new Run("a full code").due(STATIC_VOID + "begin(0, 1, 1) = 0");
        full.make("emit(30, 0);".repeat(100)).make("addHandler(0, 100, 0, 2);".repeat(10));
        full.due("infer() = 8; begin(0, 1, 1) = 0").make("emit(30, 0);".repeat(100));
        full.due("infer() = 0; emit(0, 0) = ISE; hasFrame(0) = true; visits() = 1");
    }
}
