/** Promises 20 to 25: hasFrame, stackHeight, stackSlot, localSlot, isMarked, digest. */
final class QueriesTest {
    private static final int MIN = Integer.MIN_VALUE;
    private static final int MAX = Integer.MAX_VALUE;

    public static void main(String[] args) {
        queries();
        nothingInferred();
        digests();
        Run.end();
    }

    /** The constructor of A (3) with a LONG; 5 is not reached. */
    private static Run constructor() {
        return new Run("constructor").due("declareClass(2, false) = 3; parameter(8) = 2; declareMethod(3, 2, -1) = 0;"
                + "declareMethod(2, 2, -1) = 1; declareField(3, 8) = 0; begin(0, 4, 4) = 3")
                .code(6, 0, 5, 1, 33, 0, 6, 0, 35, 1, 22, 7, 0, 0, 30, 0);
    }

    private static void queries() {
        Run run = constructor().due("infer() = 0");
        for (int index = 0; index < 8; index++) {
            run.due("hasFrame(" + index + ") = " + (index != 6));
        }
        run.due("hasFrame(-1) = IOOBE; hasFrame(8) = IOOBE; hasFrame(99) = IOOBE; hasFrame(100) = IOOBE;"
                + "hasFrame(" + MIN + ") = IOOBE; hasFrame(" + MAX + ") = IOOBE;"
                + "stackHeight(0) = 0; stackHeight(1) = 1; stackHeight(2) = 3; stackHeight(7) = 0; stackHeight(6) = ISE;"
                + "stackHeight(-1) = IOOBE; stackHeight(8) = IOOBE; stackHeight(100) = IOOBE;"
                + "stackHeight(" + MAX + ") = IOOBE;"
                + "stackSlot(2, 0) = -4; stackSlot(2, 1) = 8; stackSlot(2, 2) = -3; stackSlot(2, 3) = NSEE;"
                + "stackSlot(2, -1) = NSEE; stackSlot(2, " + MAX + ") = NSEE; stackSlot(2, " + MIN + ") = NSEE;"
                + "stackSlot(0, 0) = NSEE; stackSlot(2, 12) = NSEE; stackSlot(6, 0) = ISE; stackSlot(6, -1) = ISE;"
                + "stackSlot(8, 0) = IOOBE; stackSlot(-1, -1) = IOOBE; stackSlot(" + MIN + ", 0) = IOOBE;"
                + "localSlot(0, 0) = -4; localSlot(5, 0) = 24; localSlot(2, 1) = 8; localSlot(2, 2) = -3;"
                + "localSlot(2, 3) = -2; localSlot(2, 4) = NSEE; localSlot(2, -1) = NSEE; localSlot(2, 11) = NSEE;"
                + "localSlot(2, 12) = NSEE; localSlot(2, " + MAX + ") = NSEE; localSlot(2, " + MIN + ") = NSEE;"
                + "localSlot(6, 0) = ISE; localSlot(6, 9) = ISE; localSlot(8, 0) = IOOBE; localSlot(-1, 9) = IOOBE;"
                + "localSlot(" + MAX + ", 0) = IOOBE;"
                + "isMarked(0) = true; isMarked(4) = true; isMarked(5) = false; isMarked(7) = false; isMarked(6) = ISE;"
                + "isMarked(8) = IOOBE; isMarked(-1) = IOOBE; isMarked(" + MIN + ") = IOOBE");
    }

    private static void nothingInferred() {
        String none = "hasFrame(0) = false; stackHeight(0) = ISE; stackSlot(0, 0) = ISE; localSlot(0, 0) = ISE;"
                + "isMarked(0) = ISE; stackHeight(8) = IOOBE; stackSlot(8, 0) = IOOBE; localSlot(8, 0) = IOOBE;"
                + "isMarked(8) = IOOBE; hasFrame(8) = IOOBE;";
        constructor().due(none + "check() = 10;" + none + "declareFrame(0, true) = 1;" + none);
        new Run("no local variables").due("declareMethod(2, 1, -1) = 0; begin(0, 0, 0) = 0; emit(30, 0) = 0;"
                + "infer() = 0; localSlot(0, 0) = NSEE; stackSlot(0, 0) = NSEE; stackHeight(0) = 0");
    }

    private static long sum(long... numbers) {
        long d = 37;
        for (long x : numbers) {
            d = d * 31 + x;
        }
        return d;
    }

    private static void digests() {
        Run run = new Run("digest").due("digest() = " + sum(3, 0, 0, 0, 0, 0) + "; declareClass(2, false) = 3;"
                + "digest() = " + sum(4, 0, 0, 0, 0, 0) + "; declareField(3, 0) = 0; digest() = " + sum(4, 1, 0, 0, 0, 0)
                + "; parameter(8) = 2; digest() = " + sum(4, 1, 0, 0, 0, 0) + "; declareMethod(3, 2, -1) = 0;"
                + "digest() = " + sum(4, 1, 1, 0, 0, 0) + "; begin(0, 3, 4) = 3; digest() = " + sum(4, 1, 1, 0, 0, 0)
                + "; emit(5, 1) = 0; digest() = " + sum(4, 1, 1, 1, 0, 0, 0) + "; emit(22, 1) = 1; emit(31, 0) = 2;"
                + "addHandler(1, 2, 2, 3) = 0; digest() = " + sum(4, 1, 1, 3, 1, 0, 0, 0, 0) + "; pushStack(0) = 1;"
                + "pushLocal(0) = 1; digest() = " + sum(4, 1, 1, 3, 1, 0, 0, 0, 0) + "; declareFrame(0, true) = 1;"
                + "declareFrame(2, true) = 2; digest() = " + sum(4, 1, 1, 3, 1, 2, 0, 0, 0));
        run.due("infer() = 0; begin(0, 3, 4) = 3; emit(5, 1) = 0; emit(22, 1) = 1; emit(31, 0) = 2; emit(31, 0) = 3;"
                + "addHandler(0, 1, 3, 3) = 0; infer() = 0; digest() = "
                + sum(4, 1, 1, 4, 1, 0, 1, 0, -4, 8, -3, -2, 1, 1, 2, -4, 8, -3, -2, 8, -3, 1, 0,
                        1, 1, -4, 8, -3, -2, 24, 1)
                + "; adoptFrames() = 2; digest() = "
                + sum(4, 1, 1, 4, 1, 2, 1, 0, -4, 8, -3, -2, 1, 1, 2, -4, 8, -3, -2, 8, -3, 1, 0,
                        1, 1, -4, 8, -3, -2, 24, 1));
        new Run("digest without the mark").due("declareMethod(2, 1, -1) = 0; begin(0, 1, 1) = 0; emit(1, 0) = 0;"
                + "emit(22, 1) = 1; emit(0, 0) = 2; infer() = 0; digest() = "
                + sum(3, 0, 1, 3, 0, 0, 1, 0, -2, 0, 1, 1, -2, 0, 0, 0) + "; emit(22, 1) = 3; digest() = "
                + sum(3, 0, 1, 4, 0, 0, 0, 0, 0, 0));
    }
}
