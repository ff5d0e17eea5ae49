/** Promises 1 to 5: a new object, classes, fields, parameters, methods. */
final class DeclarationsTest {
    private static final int MIN = Integer.MIN_VALUE;
    private static final int MAX = Integer.MAX_VALUE;

    public static void main(String[] args) {
        newObject();
        classes();
        fields();
        parameters();
        methods();
        pendingParametersGo();
        Run.end();
    }

    /** The digest of an object without code. */
    private static long digest(int bases, int fields, int methods) {
        long d = 37;
        for (int x : new int[] {bases, fields, methods, 0, 0, 0}) {
            d = d * 31 + x;
        }
        return d;
    }

    private static void newObject() {
        new Run("new object").due("digest() = " + digest(3, 0, 0) + "; instructionCount() = 0;"
                + "errorPosition() = -1; visits() = 0; hasFrame(0) = IOOBE; stackHeight(0) = IOOBE;"
                + "stackSlot(0, 0) = IOOBE; localSlot(0, 0) = IOOBE; isMarked(0) = IOOBE;"
                + "begin(0, 1, 1) = IOOBE; emit(0, 0) = ISE; addHandler(0, 1, 0, 2) = ISE;"
                + "adoptFrames() = ISE; infer() = ISE; check() = ISE; declareFrame(0, false) = IOOBE;"
                + "isAssignable(4, 16) = true; isAssignable(12, 20) = false; isAssignable(20, 16) = true;"
                + "isAssignable(24, 16) = IAE; declareField(2, 24) = IAE; parameter(24) = IAE;"
                + "declareClass(3, false) = IAE; pushLocal(20) = 1; pushStack(20) = 1;"
                + "parameter(16) = 1; declareField(2, 16) = 0; declareClass(2, false) = 3");
    }

    private static void classes() {
        Run run = new Run("classes").due("declareClass(0, false) = IAE; declareClass(1, false) = IAE;"
                + "declareClass(-1, false) = IAE; declareClass(3, false) = IAE; declareClass(3, true) = IAE;"
                + "declareClass(" + MIN + ", false) = IAE; declareClass(" + MAX + ", false) = IAE;"
                + "declareClass(1, true) = IAE; declareClass(2, false) = 3; declareClass(2, true) = 4;"
                + "declareClass(3, true) = IAE; declareClass(4, false) = IAE; declareClass(4, true) = IAE;"
                + "declareClass(3, false) = 5; digest() = " + digest(6, 0, 0) + ";"
                + "isAssignable(40, 24) = true; isAssignable(40, 32) = true; isAssignable(32, 24) = false");
        for (int base = 6; base < 20; base++) {
            run.due("declareClass(" + (base - 1) + ", false) = " + base);
        }
        run.due("declareClass(2, false) = ISE; declareClass(2, true) = ISE; declareClass(19, false) = ISE;"
                + "declareClass(20, false) = IAE; declareClass(4, false) = IAE; declareClass(3, true) = IAE;"
                + "digest() = " + digest(20, 0, 0) + "; isAssignable(152, 24) = true; isAssignable(152, 48) = true;"
                + "isAssignable(24, 152) = false; join(152, 40) = 40; isAssignable(160, 16) = IAE");
    }

    private static void fields() {
        Run run = new Run("fields").due("declareClass(2, false) = 3; declareClass(2, true) = 4;"
                + "declareField(0, 0) = IAE; declareField(1, 0) = IAE; declareField(4, 0) = IAE;"
                + "declareField(5, 0) = IAE; declareField(-1, 0) = IAE; declareField(" + MAX + ", 0) = IAE;"
                + "declareField(" + MIN + ", 0) = IAE; declareField(3, -1) = IAE; declareField(3, 5) = IAE;"
                + "declareField(3, 7) = IAE; declareField(3, 13) = IAE; declareField(3, 40) = IAE;"
                + "declareField(3, " + MAX + ") = IAE; declareField(3, " + MIN + ") = IAE;"
                + "declareField(3, 0) = 0; declareField(3, 4) = 1; declareField(3, 8) = 2;"
                + "declareField(2, 12) = 3; declareField(3, 36) = 4; declareField(3, 32) = 5;"
                + "digest() = " + digest(5, 6, 0));
        for (int field = 6; field < 30; field++) {
            run.due("declareField(3, 24) = " + field);
        }
        run.due("declareField(3, 24) = ISE; declareField(4, 24) = IAE; declareField(3, -1) = IAE;"
                + "digest() = " + digest(5, 30, 0));
    }

    private static void parameters() {
        new Run("parameters").due("parameter(-1) = IAE; parameter(5) = IAE; parameter(24) = IAE;"
                + "parameter(" + MAX + ") = IAE; parameter(" + MIN + ") = IAE; parameter(8) = 2;"
                + "parameter(0) = 3; parameter(8) = 5; parameter(8) = ISE; parameter(7) = IAE;"
                + "parameter(20) = 6; parameter(0) = ISE; parameter(8) = ISE; parameter(-2) = IAE;"
                + "declareMethod(2, 1, -1) = 0; begin(0, 0, 12) = 6; emit(0, 0) = 0; emit(30, 0) = 1;"
                + "infer() = 0; localSlot(0, 0) = 8; localSlot(0, 1) = -3; localSlot(0, 2) = 0;"
                + "localSlot(0, 3) = 8; localSlot(0, 4) = -3; localSlot(0, 5) = 20; localSlot(0, 6) = -2");
        new Run("six small parameters").times(1, "parameter(0) = 1; parameter(0) = 2; parameter(0) = 3;"
                + "parameter(0) = 4; parameter(0) = 5; parameter(8) = ISE; parameter(0) = 6;"
                + "parameter(0) = ISE; declareMethod(2, 0, -1) = 0; begin(0, 0, 12) = 7");
    }

    private static void methods() {
        Run run = new Run("methods").due("declareClass(2, false) = 3; declareClass(2, true) = 4;"
                + "declareMethod(0, 0, -1) = IAE; declareMethod(1, 1, -1) = IAE; declareMethod(5, 0, -1) = IAE;"
                + "declareMethod(-1, 0, -1) = IAE; declareMethod(" + MAX + ", 0, -1) = IAE;"
                + "declareMethod(" + MIN + ", 0, -1) = IAE; declareMethod(4, 1, -1) = IAE;"
                + "declareMethod(4, 2, -1) = IAE; declareMethod(3, 3, -1) = IAE; declareMethod(3, -1, -1) = IAE;"
                + "declareMethod(3, 0, -2) = IAE; declareMethod(3, 0, 5) = IAE; declareMethod(3, 0, 40) = IAE;"
                + "declareMethod(3, 0, " + MIN + ") = IAE; declareMethod(3, 2, 0) = IAE;"
                + "declareMethod(3, 2, 24) = IAE; declareMethod(2, 2, 16) = IAE; declareMethod(4, 3, -1) = IAE;"
                + "declareMethod(4, 0, -1) = 0; declareMethod(3, 0, 8) = 1; declareMethod(3, 1, 36) = 2;"
                + "declareMethod(3, 2, -1) = 3; declareMethod(2, 2, -1) = 4; declareMethod(2, 0, 32) = 5;"
                + "digest() = " + digest(5, 0, 6));
        for (int method = 6; method < 30; method++) {
            run.due("declareMethod(2, 1, 0) = " + method);
        }
        run.due("declareMethod(2, 1, 0) = ISE; declareMethod(4, 1, 0) = IAE; declareMethod(2, 3, 0) = IAE;"
                + "digest() = " + digest(5, 0, 30) + "; begin(29, 0, 0) = 0; begin(30, 0, 0) = IOOBE");
    }

    private static void pendingParametersGo() {
        new Run("pending parameters go").due("parameter(8) = 2; declareMethod(2, 1, -1) = 0;"
                + "parameter(0) = 1; declareMethod(2, 3, -1) = IAE; parameter(0) = 1; parameter(0) = 2;"
                + "declareMethod(2, 1, 7) = IAE; parameter(8) = 2; declareMethod(2, 0, -1) = 1;"
                + "declareMethod(2, 1, -1) = 2; begin(0, 0, 0) = 2; begin(1, 0, 0) = 3; begin(2, 0, 0) = 0");
        new Run("too many methods").times(1, "declareMethod(2, 1, 0) = 0").make(
                "declareMethod(2, 1, 0);".repeat(29)).due("parameter(0) = 1;"
                + "declareMethod(2, 1, 0) = ISE; parameter(0) = 1");
    }
}
