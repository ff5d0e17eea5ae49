/** Which of several exceptions is thrown, and that a call that throws leaves all things as they were. */
final class RefusalEdges {
    private static final int MIN = Edges.MIN;
    private static final int MAX = Edges.MAX;

    private RefusalEdges() {
    }

    static void run() {
        declarations();
        codes();
        frames();
        queries();
        nothingChanges();
        nothingChangesInFull();
    }

    private static Run first(String promises) {
        return Edges.edge(promises, "If several exceptions apply, the one that is named first is thrown.");
    }

    private static void declarations() {
        first("2").make("declareClass(2, true);".repeat(16)).due("declareClass(2, false) = 19; declareClass(0, false) = IAE;"
                + "declareClass(20, false) = IAE; declareClass(3, false) = IAE; declareClass(19, true) = IAE;"
                + "declareClass(2, true) = ISE; declareClass(19, false) = ISE");
        first("3").make("declareField(2, 0);".repeat(30)).due("declareField(1, 0) = IAE; declareField(3, 0) = IAE;"
                + "declareField(2, 5) = IAE; declareField(2, -1) = IAE; declareField(1, 5) = IAE; declareField(2, 0) = ISE");
        first("4").make("parameter(8);".repeat(3)).due("parameter(-1) = IAE; parameter(24) = IAE; parameter(5) = IAE;"
                + "parameter(" + MAX + ") = IAE; parameter(0) = ISE; parameter(8) = ISE");
        first("5").make("declareMethod(2, 1, 0);".repeat(30)).due("declareMethod(1, 1, 0) = IAE; declareMethod(2, 3, 0) = IAE;"
                + "declareMethod(2, 1, 7) = IAE; declareMethod(2, 2, 0) = IAE; declareMethod(3, 0, 0) = IAE;"
                + "declareMethod(2, 2, -1) = ISE; declareMethod(2, 0, 0) = ISE");
    }

    private static void codes() {
        first("8").due("declareClass(2, true) = 3; begin(0, 13, 13) = IOOBE; declareMethod(3, 0, -1) = 0; begin(1, -1, 13) = IOOBE;"
                + "begin(-1, 13, 0) = IOOBE; begin(" + MIN + ", " + MIN + ", " + MAX + ") = IOOBE; begin(0, 13, 0) = IAE;"
                + "begin(0, 0, -1) = IAE; begin(0, 0, 0) = IAE");
        first("9").due("emit(46, 0) = IAE; emit(-1, 0) = IAE; emit(0, 0) = ISE; declareMethod(2, 1, -1) = 0; emit(46, 0) = IAE;"
                + "begin(0, 0, 0) = 0").make("emit(0, 0);".repeat(100)).due("emit(46, 0) = IAE; emit(-1, 0) = IAE; emit(0, 0) = ISE");
        first("10").due("addHandler(0, 1, 0, 1) = IAE; addHandler(0, 1, 0, 3) = IAE; addHandler(0, 1, 0, 2) = ISE;"
                + "declareMethod(2, 1, -1) = 0; addHandler(-1, -1, -1, -1) = IAE; begin(0, 0, 0) = 0")
                .make("addHandler(0, 1, 0, 2);".repeat(10)).due("addHandler(0, 1, 0, 1) = IAE; addHandler(0, 1, 0, 3) = IAE;"
                + "addHandler(0, 1, 0, 2) = ISE");
    }

    private static void frames() {
        for (String push : new String[] {"pushLocal", "pushStack"}) {
            first(push.equals("pushLocal") ? "12" : "13").make((push + "(0);").repeat(12)).due(push + "(-5) = IAE; " + push
                    + "(24) = IAE; " + push + "(-110) = IAE; " + push + "(0) = ISE; " + push + "(-5) = IAE");
        }
        first("14").due("pushLocal(8) = 1; declareFrame(0, false) = IOOBE; declareMethod(2, 1, -1) = 0; begin(0, 0, 0) = 0;"
                + "pushLocal(0) = 1; declareFrame(0, false) = IOOBE; emit(30, 0) = 0; pushStack(0) = 1; pushLocal(-3) = 1;"
                + "declareFrame(1, false) = IOOBE; pushStack(0) = 1; declareFrame(-1, true) = IOOBE; pushStack(0) = 1;"
                + "declareFrame(0, false) = IAE");
    }

    private static void queries() {
        String code = "declareMethod(2, 1, -1) = 0; begin(0, 1, 1) = 0; emit(30, 0) = 0; emit(30, 0) = 1;";
        first("21").due("stackHeight(0) = IOOBE;" + code + "stackHeight(2) = IOOBE; stackHeight(1) = ISE; infer() = 0;"
                + "stackHeight(2) = IOOBE; stackHeight(1) = ISE; stackHeight(0) = 0");
        first("22").due("stackSlot(0, -1) = IOOBE;" + code + "stackSlot(2, -1) = IOOBE; stackSlot(1, -1) = ISE;"
                + "stackSlot(0, 12) = ISE; infer() = 0; stackSlot(2, 99) = IOOBE; stackSlot(-1, -1) = IOOBE;"
                + "stackSlot(1, 99) = ISE; stackSlot(1, 0) = ISE; stackSlot(0, 0) = NSEE");
        first("23").due("localSlot(0, -1) = IOOBE;" + code + "localSlot(2, -1) = IOOBE; localSlot(1, -1) = ISE;"
                + "localSlot(0, 12) = ISE; infer() = 0; localSlot(2, 99) = IOOBE; localSlot(-1, -1) = IOOBE;"
                + "localSlot(1, 99) = ISE; localSlot(1, 0) = ISE; localSlot(0, 1) = NSEE; localSlot(0, 0) = -2");
        first("24").due("isMarked(0) = IOOBE;" + code + "isMarked(2) = IOOBE; isMarked(1) = ISE; infer() = 0; isMarked(2) = IOOBE;"
                + "isMarked(1) = ISE; isMarked(0) = false");
    }

    /** All calls that can be refused, but for the two that empty the pending lists. */
    private static final String REFUSED = "declareClass(0, false) = IAE; declareClass(3, true) = IAE; declareClass(99, true) = IAE;"
            + "declareField(1, 0) = IAE; declareField(2, 99) = IAE; parameter(-1) = IAE; parameter(5) = IAE;"
            + "isAssignable(0, 5) = IAE; isAssignable(-5, 0) = IAE; join(-110, 0) = IAE; join(0, 5) = IAE; begin(9, 0, 0) = IOOBE;"
            + "begin(0, 13, 0) = IAE; begin(0, 0, -1) = IAE; emit(46, 0) = IAE; emit(-1, 0) = IAE; addHandler(0, 1, 0, 1) = IAE;"
            + "pushLocal(5) = IAE; pushStack(-5) = IAE; hasFrame(99) = IOOBE; stackHeight(-1) = IOOBE; stackSlot(99, 0) = IOOBE;"
            + "localSlot(99, 0) = IOOBE; isMarked(99) = IOOBE;";

    private static final String CHANGES_NOTHING = "A method that throws an exception changes nothing, except that declareMethod and"
            + " declareFrame empty the pending lists.";

    /**
     * The refused calls are made at one of the places that are marked by @. The run's twin does not make them, and must answer
     * the same in all that follows.
     */
    private static void nothingChanges() {
        String promises = "2, 3, 4, 6, 7, 8, 9, 10, 12, 13, 15, 16, 17, 20, 21, 22, 23, 24";
        String script = "@ declareClass(2, false) = 3; @ declareClass(3, false) = 4; declareField(3, 0) = 0; @ parameter(8) = 2; @"
                + "parameter(24) = 3; declareMethod(3, 1, -1) = 1; pushLocal(8) = 1; pushLocal(-3) = 2; pushStack(16) = 1; @"
                + "begin(1, 2, 4) = 3; @ emit(22, 2) = 0; emit(0, 0) = 1; emit(30, 0) = 2; emit(31, 0) = 3; @"
                + "addHandler(0, 1, 3, 4) = 0; @ declareFrame(3, false) = 1; parameter(8) = 2; pushLocal(8) = 1;"
                + "pushStack(16) = 1; @ check() = 10; @ errorPosition() = 0; visits() = 1; infer() = 0; @ visits() = 3;"
                + "errorPosition() = -1; hasFrame(3) = true; stackSlot(3, 0) = 32; localSlot(3, 2) = 24; stackSlot(2, 0) = NSEE;"
                + "localSlot(2, 4) = NSEE; stackHeight(1) = ISE; stackSlot(1, 0) = ISE; localSlot(1, 0) = ISE; isMarked(1) = ISE;"
                + "hasFrame(2) = true; adoptFrames() = 2; @ pushLocal(-3) = 2; pushStack(0) = 2; parameter(8) = 4;"
                + "declareFrame(3, true) = 2; check() = 10; errorPosition() = 0; visits() = 1; declareMethod(3, 0, 24) = 2;"
                + "begin(2, 0, 0) = 5";
        String[] parts = script.split("@");
        for (int place = 1; place < parts.length; place++) {
            Run run = Edges.edge(promises, CHANGES_NOTHING).due("infer() = ISE; check() = ISE; adoptFrames() = ISE; emit(0, 0) = ISE;"
                    + "declareMethod(2, 1, -1) = 0");
            for (int k = 0; k < parts.length; k++) {
                run.due(k == place ? REFUSED + parts[k] : parts[k]);
            }
        }
    }

    /** The same where all tables and lists are full. */
    private static void nothingChangesInFull() {
        String promises = "2, 3, 4, 9, 10, 12, 13";
        Run run = Edges.edge(promises, CHANGES_NOTHING).make("declareClass(2, false);".repeat(17) + "declareField(2, 0);".repeat(30)
                + "declareMethod(2, 1, -1);".repeat(30) + "begin(1, 12, 12);" + "emit(30, 0);" + "emit(0, 0);".repeat(99)
                + "addHandler(5, 6, 99, 2);".repeat(10) + "parameter(8);".repeat(3) + "pushLocal(16);".repeat(12)
                + "pushStack(16);".repeat(12));
        run.due("infer() = 0; declareClass(2, false) = ISE; declareField(2, 0) = ISE; parameter(0) = ISE; emit(30, 0) = ISE;"
                + "addHandler(0, 1, 0, 2) = ISE; pushLocal(0) = ISE; pushStack(0) = ISE; errorPosition() = -1; hasFrame(0) = true;"
                + "declareFrame(1, false) = 1; pushLocal(0) = 1; pushStack(0) = 1; check() = 10; errorPosition() = 5; visits() = 6;"
                + "parameter(8) = ISE; declareMethod(2, 1, -1) = ISE; parameter(0) = 1; digest() = " + Edges.sum(full()));
    }

    /** What digest adds up: the only inferred frame is the one at 0, with twelve local variables TOP. */
    private static long[] full() {
        long[] numbers = new long[6 + 15 + 99];
        long[] head = {20, 30, 30, 100, 10, 1, 1, 0, -2, -2, -2, -2, -2, -2, -2, -2, -2, -2, -2, -2, 0};
        System.arraycopy(head, 0, numbers, 0, head.length);
        return numbers;
    }
}
