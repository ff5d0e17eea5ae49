/**
 * Edges of section 4 that infer and check share (promises 16 and 17): the first frame, and how one
 * instruction is processed.
 */
final class ProcessEdges {
    /** A 3, B 4 and C 5 below A, the interface I 6. */
    private static final String CLASSES = "declareClass(2, false) = 3; declareClass(3, false) = 4;"
            + "declareClass(3, false) = 5; declareClass(2, true) = 6;";

    /**
     * Methods: 0 static and VOID, 1 static with the result A, 2 the constructor of B, 3 of A, 4 an instance method of C
     * with LONG, B and INT, 5 the constructor of Object.
     */
    static final String BASES = CLASSES + "declareMethod(2, 1, -1) = 0;"
            + "declareMethod(2, 1, 24) = 1; declareMethod(4, 2, -1) = 2; declareMethod(3, 2, -1) = 3;"
            + "parameter(8) = 2; parameter(32) = 3; parameter(0) = 4; declareMethod(5, 0, -1) = 4;"
            + "declareMethod(2, 2, -1) = 5; declareField(4, 0) = 0;";

    private ProcessEdges() {
    }

    static void run() {
        frames();
        firstFrames();
        firstFramesInFull();
        kindsAndPositions();
        handlersInRange();
        caughtFrames();
        noRoomToCatch();
        orderOfTheParts();
        wrongLocalFirst();
        popsFromTheTop();
        wrongReturns();
        tooHighLast();
        noNextInstruction();
        positions();
    }

    private static Run edge(String quote) {
        return Edges.edge("16, 17", quote).due(BASES);
    }

    /** Both analyses come to the same answer for a code without targets. */
    private static Run both(Run run, int kind, int position, int visits) {
        String rest = " = " + kind + "; errorPosition() = " + position + "; visits() = " + visits;
        return run.due("infer()" + rest + "; check()" + rest);
    }

    private static void frames() {
        Edges.edge("16, 21, 22, 23, 24", "A frame consists of the slots of the local variables, the slots of the stack (from the"
                + " bottom), and a mark \"not initialized\".").due(BASES + "begin(2, 3, 2) = 1").code(6, 0, 1, 0, 3, 0, 22, 3)
                .due("infer() = 0; stackHeight(3) = 3; stackSlot(3, 0) = -4; stackSlot(3, 1) = 0; stackSlot(3, 2) = -1;"
                + "stackSlot(3, 3) = NSEE; localSlot(3, 0) = -4; localSlot(3, 1) = -2; localSlot(3, 2) = NSEE;"
                + "isMarked(3) = true");
    }

    private static void firstFrames() {
        String first = "The first frame: the stack is empty";
        edge(first).due("begin(0, 1, 1) = 0").code(10, 0).due("infer() = 3; check() = 3; begin(0, 1, 1) = 0").code(30, 0)
                .due("infer() = 0; stackHeight(0) = 0; check() = 0; pushStack(-2) = 1; declareFrame(0, false) = 1; check() = 10;"
                + "errorPosition() = 0; declareFrame(0, false) = 1; check() = 0");
        // the declared frame at 0 has the locals behind "at": each must take what the first frame has
        String owner = "an instance method has its owner in local variable 0";
        Run instance = edge(owner).due("begin(4, 1, 5) = 5").code(6, 0, 10, 0, 30, 0);
        instance.due("infer() = 0; localSlot(0, 0) = 40; isMarked(0) = false; stackSlot(1, 0) = 40; check() = 0");
        dueFirst(instance, "40 8 -3 32 0", false, 0);
        dueFirst(instance, "24 8 -3 16 0", false, 0);
        dueFirst(instance, "48 -2 -2 24 -2", true, 9);
        dueFirst(instance, "32 8 -3 32 0", false, 10);
        dueFirst(instance, "40 8 -3 40 0", false, 10);
        dueFirst(instance, "40 0 -2 32 0", false, 10);
        dueFirst(instance, "40 8 -3 32 16", false, 10);
        dueFirst(instance, "-4 8 -3 32 0", true, 10);
        String self = "a constructor has THIS there and the mark (a constructor of Object has Object there, and no mark)";
        Run constructor = edge(self).due("begin(2, 1, 2) = 1").code(6, 0, 35, 3, 30, 0);
        constructor.due("infer() = 0; localSlot(0, 0) = -4; localSlot(0, 1) = -2; isMarked(0) = true; check() = 0");
        dueFirst(constructor, "-4 -2", true, 0);
        dueFirst(constructor, "-4 -2", false, 10);
        dueFirst(constructor, "32 -2", true, 10);
        dueFirst(constructor, "16 -2", true, 10);
        dueFirst(constructor, "-4 0", true, 10);
        Run object = edge(self).due("begin(5, 1, 2) = 1").code(6, 0, 31, 0);
        object.due("infer() = 0; localSlot(0, 0) = 16; localSlot(0, 1) = -2; isMarked(0) = false; check() = 0");
        dueFirst(object, "16 -2", false, 0);
        dueFirst(object, "-4 -2", true, 10);
        dueFirst(object, "-1 -2", false, 10);
        String others = "all other local variables are TOP";
        Run none = edge(others).due("begin(0, 0, 12) = 0").code(30, 0).due("infer() = 0; check() = 0");
        for (int local = 0; local < 12; local++) {
            none.due("localSlot(0, " + local + ") = -2");
        }
        for (int local = 0; local < 12; local++) {
            dueFirst(none, "-2 ".repeat(local) + "0", false, 10);
        }
        dueFirst(none, "-2 ".repeat(11) + "-2", false, 0);
        edge(others).due("begin(0, 1, 0) = 0").code(30, 0).due("infer() = 0; localSlot(0, 0) = NSEE; check() = 0");
    }

    /** Declares a frame with these local variables at 0; the kind is 10 if the first frame is not assignable to it. */
    private static void dueFirst(Run run, String locals, boolean isMarked, int kind) {
        for (String slot : locals.split(" ")) {
            run.make("pushLocal(" + slot + ")");
        }
        run.due("declareFrame(0, " + isMarked + ") = 1; check() = " + kind);
        if (kind == 10) {
            run.due("errorPosition() = 0; visits() = 0");
        }
    }

    private static void firstFramesInFull() {
        String quote = "the parameters follow, in order, LONG in two slots";
        String six = "parameter(0) = 1; parameter(8) = 3; parameter(9) = 4; parameter(8) = 6;";
        Run run = Edges.edge("16, 17", quote).due(CLASSES + six + "declareMethod(3, 0, -1) = 0;" + six
                + "declareMethod(3, 1, -1) = 1;" + six + "declareMethod(3, 2, -1) = 2;" + six + "declareMethod(2, 2, -1) = 3");
        int[] objects = {24, -3, -4, 16};
        for (int method = 0; method <= 3; method++) {
            int first = method == 1 ? 0 : 1;
            run.due("begin(" + method + ", 1, " + (7 + first) + ") = " + (6 + first)).code(22, 0).due("infer() = 0;"
                    + "localSlot(0, " + first + ") = 0; localSlot(0, " + (first + 1) + ") = 8;"
                    + "localSlot(0, " + (first + 2) + ") = -3; localSlot(0, " + (first + 3) + ") = 9;"
                    + "localSlot(0, " + (first + 4) + ") = 8; localSlot(0, " + (first + 5) + ") = -3;"
                    + "localSlot(0, " + (first + 6) + ") = -2; adoptFrames() = 1; check() = 0");
            if (first == 1) {
                run.due("localSlot(0, 0) = " + objects[method]);
            }
        }
    }

    private static void kindsAndPositions() {
        Run run = edge("Errors are reported with a kind and a position.");
        both(run.due("begin(0, 1, 1) = 0").code(0, 0, 10, 0), 3, 1, 2);
        both(run.due("begin(0, 1, 1) = 0").code(1, 0, 9, 0), 4, 1, 2);
        both(run.due("begin(0, 1, 1) = 0").code(30, 0), 0, -1, 1);
    }

    // ---- (a)

    private static void handlersInRange() {
        String quote = "(a) For each handler whose range contains i, in ascending order: the frame with the same local variables"
                + " and mark, and with only the class of the handler on the stack, flows from i to the target of the handler.";
        // 0 to 3 are passed one after the other; 4 to 6 are targets
        int[] code = {0, 0, 0, 0, 0, 0, 30, 0, 31, 0, 31, 0, 31, 0};
        for (int start = 0; start <= 3; start++) {
            for (int end = start + 1; end <= 4; end++) {
                Run run = edge(quote).due("begin(0, 1, 1) = 0").code(code).due("addHandler(" + start + ", " + end + ", 4, 5) = 0;"
                        + "infer() = 0; stackHeight(4) = 1; stackSlot(4, 0) = 40; hasFrame(5) = false; check() = 10;"
                        + "errorPosition() = " + start + "; visits() = " + (start + 1));
                run.due("pushStack(40) = 1; declareFrame(4, false) = 1; declareFrame(5, true) = 2; declareFrame(6, true) = 3;"
                        + "check() = 3; errorPosition() = 5");
            }
        }
        edge(quote).due("begin(0, 1, 1) = 0").code(code).due("addHandler(4, 5, 5, 2) = 0; infer() = 0; visits() = 4;"
                + "hasFrame(4) = false; hasFrame(5) = false; begin(0, 1, 1) = 0").code(code).due("addHandler(0, 1, 4, 5) = 0;"
                + "addHandler(4, 5, 5, 3) = 1; addHandler(5, 6, 6, 2) = 2; infer() = 0; stackSlot(4, 0) = 40;"
                + "stackSlot(5, 0) = 24; stackSlot(6, 0) = 16; visits() = 7");
        // the frames of all handlers around the index flow, also to the same target
        edge(quote).due("begin(0, 1, 1) = 0").code(code).due("addHandler(1, 2, 4, 4) = 0; addHandler(1, 3, 5, 5) = 1;"
                + "addHandler(0, 4, 6, 2) = 2; infer() = 0; stackSlot(4, 0) = 32; stackSlot(5, 0) = 40; stackSlot(6, 0) = 16;"
                + "begin(0, 1, 1) = 0").code(code).due("addHandler(1, 2, 4, 4) = 0; addHandler(1, 2, 4, 5) = 1; infer() = 0;"
                + "stackSlot(4, 0) = 24; visits() = 5; begin(0, 1, 1) = 0").code(code).due("addHandler(3, 4, 4, 4) = 0;"
                + "addHandler(3, 4, 4, 3) = 1; pushStack(32) = 1; declareFrame(4, false) = 1; check() = 10;"
                + "errorPosition() = 3; pushStack(24) = 1; declareFrame(4, false) = 1; check() = 10; errorPosition() = 5");
        Run ten = edge(quote).due("begin(0, 1, 1) = 0").code(0, 0, 30, 0);
        for (int handler = 0; handler < 10; handler++) {
            ten.code(31, 0).due("addHandler(0, 1, " + (handler + 2) + ", " + (3 + handler % 3) + ") = " + handler);
        }
        ten.due("infer() = 0; visits() = 12");
        for (int handler = 0; handler < 10; handler++) {
            ten.due("stackSlot(" + (handler + 2) + ", 0) = " + (24 + 8 * (handler % 3)));
        }
    }

    private static void caughtFrames() {
        String quote = "the frame with the same local variables and mark, and with only the class of the handler on the stack";
        // locals before the store, with a stack that is dropped
        edge(quote).due("begin(0, 4, 2) = 0").code(1, 0, 1, 0, 2, 0, 8, 0, 7, 0, 7, 1, 30, 0, 31, 0).due("addHandler(3, 4, 7, 4) = 0; infer() = 0;"
                + "stackHeight(7) = 1; stackSlot(7, 0) = 32; localSlot(7, 0) = -2; localSlot(7, 1) = -2; localSlot(4, 0) = 8;"
                + "begin(0, 4, 2) = 0").code(1, 0, 1, 0, 2, 0, 8, 0, 7, 0, 7, 1, 30, 0, 31, 0)
                .due("addHandler(4, 5, 7, 4) = 0; infer() = 0; stackHeight(4) = 2; stackHeight(7) = 1; localSlot(7, 0) = 8;"
                + "localSlot(7, 1) = -3; pushLocal(8) = 1; pushLocal(-3) = 2; pushStack(32) = 1; declareFrame(7, false) = 1;"
                + "check() = 0; pushLocal(0) = 1; pushStack(32) = 1; declareFrame(7, false) = 1; check() = 10;"
                + "errorPosition() = 4");
        edge(quote).due("begin(2, 1, 1) = 1").code(6, 0, 35, 3, 30, 0, 31, 0).due("addHandler(1, 2, 3, 2) = 0; infer() = 0;"
                + "isMarked(3) = true; localSlot(3, 0) = -4; pushLocal(-4) = 1; pushStack(16) = 1; declareFrame(3, false) = 1;"
                + "check() = 10; errorPosition() = 1; pushLocal(-4) = 1; pushStack(16) = 1; declareFrame(3, true) = 1;"
                + "check() = 0; begin(2, 1, 1) = 1").code(6, 0, 35, 3, 30, 0, 31, 0).due("addHandler(2, 3, 3, 2) = 0;"
                + "infer() = 0; isMarked(3) = false; localSlot(3, 0) = 32; pushLocal(32) = 1; pushStack(16) = 1;"
                + "declareFrame(3, false) = 1; check() = 0");
        // objects that are not initialized stay in the local variables
        edge(quote).due("begin(0, 1, 1) = 0").code(34, 3, 9, 0, 30, 0, 31, 0).due("addHandler(2, 3, 3, 2) = 0; infer() = 0;"
                + "localSlot(3, 0) = -10; stackSlot(3, 0) = 16");
        // the target is the next instruction, or the instruction itself
        edge(quote).due("begin(0, 1, 1) = 0").code(3, 0, 10, 0, 30, 0).due("addHandler(0, 1, 1, 5) = 0; infer() = 0;"
                + "stackSlot(1, 0) = 40; visits() = 3; check() = 10; errorPosition() = 0; pushStack(40) = 1;"
                + "declareFrame(1, false) = 1; check() = 0; begin(0, 1, 1) = 0").code(3, 0, 44, 32, 10, 0, 30, 0)
                .due("addHandler(2, 3, 2, 5) = 0; infer() = 0; stackSlot(2, 0) = 24; visits() = 5; pushStack(32) = 1;"
                + "declareFrame(2, false) = 1; check() = 10; errorPosition() = 2; visits() = 3; adoptFrames() = 1; check() = 0");
    }

    private static void noRoomToCatch() {
        Run run = edge("If the maximum stack height is 0, this is error 6.");
        both(run.due("begin(0, 0, 1) = 0").code(0, 0, 0, 0, 30, 0).due("addHandler(1, 2, 2, 2) = 0"), 6, 1, 2);
        both(run.due("begin(0, 0, 1) = 0").code(0, 0, 0, 0, 30, 0).due("addHandler(0, 3, 2, 2) = 0"), 6, 0, 1);
        both(run.due("begin(0, 0, 1) = 0").code(0, 0, 0, 0, 10, 0).due("addHandler(2, 3, 0, 2) = 0"), 6, 2, 3);
        run.due("begin(0, 0, 1) = 0").code(30, 0, 30, 0).due("addHandler(1, 2, 0, 2) = 0; infer() = 0; check() = 10;"
                + "errorPosition() = 1; begin(0, 1, 1) = 0").code(0, 0, 30, 0, 31, 0).due("addHandler(0, 2, 2, 2) = 0;"
                + "infer() = 0; stackHeight(2) = 1");
    }

    // ---- (b) and (c)

    private static void orderOfTheParts() {
        Run run = edge("To process an instruction at index i with a frame means, in this order:");
        // (a) before (b): error 6 and error 8 of a handler come before error 3 and error 5 of the instruction
        both(run.due("begin(0, 0, 1) = 0").code(10, 0).due("addHandler(0, 1, 0, 2) = 0"), 6, 0, 1);
        both(run.due("begin(0, 0, 1) = 0").code(4, 0).due("addHandler(0, 1, 0, 2) = 0"), 6, 0, 1);
        run.due("begin(0, 1, 1) = 0").code(10, 0).due("addHandler(0, 1, 0, 2) = 0; infer() = 8; check() = 10;"
                + "errorPosition() = 0; begin(0, 1, 1) = 0").code(4, 0).due("addHandler(0, 1, 0, 2) = 0; infer() = 8;"
                + "check() = 10; begin(0, 1, 1) = 0").code(10, 0).due("infer() = 3; check() = 3");
        // (b) before (c): the errors of the instruction come before error 7, 8 and 10 of its successors
        both(run.due("begin(0, 1, 1) = 0").code(10, 0), 3, 0, 1);
        both(run.due("begin(0, 1, 1) = 0").code(3, 0, 23, 0), 4, 1, 2);
        both(run.due("begin(0, 1, 1) = 0").code(1, 0, 7, 0, 23, 0), 3, 2, 3);
        Run executed = edge("(b) The instruction is executed.");
        executed.due("begin(0, 1, 1) = 0").code(1, 0, 7, 0, 30, 0).due("infer() = 0; stackHeight(0) = 0; stackHeight(1) = 1;"
                + "localSlot(1, 0) = -2; stackHeight(2) = 0; localSlot(2, 0) = 0");
        Run next = edge("(c) The new frame flows from i to each successor: the next instruction first, then t.");
        // error 7 of the next instruction before error 8 or 10 at t; error 8 at either one
        next.due("begin(0, 2, 1) = 0").code(1, 0, 1, 0, 23, 0).due("infer() = 7; errorPosition() = 2; check() = 7;"
                + "errorPosition() = 2; begin(0, 2, 1) = 0").code(1, 0, 1, 0, 23, 0, 30, 0).due("infer() = 8;"
                + "errorPosition() = 2; visits() = 3; hasFrame(3) = false; check() = 10; errorPosition() = 2;"
                + "begin(0, 1, 1) = 0").code(1, 0, 23, 3, 3, 0, 30, 0).due("infer() = 8; errorPosition() = 2; visits() = 3");
    }

    private static void wrongLocalFirst() {
        Run run = edge("First error 5: a local variable that is loaded or incremented does not contain what it must.");
        both(run.due("begin(0, 0, 1) = 0").code(4, 0), 5, 0, 1);
        both(run.due("begin(0, 1, 2) = 0").code(1, 0, 4, 0), 5, 1, 2);
        both(run.due("begin(0, 1, 2) = 0").code(1, 0, 5, 0), 5, 1, 2);
        both(run.due("begin(0, 1, 2) = 0").code(1, 0, 6, 1), 5, 1, 2);
        both(run.due("begin(0, 1, 2) = 0").code(21, 1), 5, 0, 1);
        both(run.due("begin(0, 1, 2) = 0").code(1, 0, 7, 0, 21, 1), 5, 2, 3);
        both(run.due("begin(0, 1, 2) = 0").code(1, 0, 7, 0, 21, 0, 30, 0), 0, -1, 4);
        both(run.due("begin(0, 1, 2) = 0").code(1, 0, 7, 0, 1, 0, 4, 0, 30, 0), 6, 3, 4);
    }

    private static void popsFromTheTop() {
        String quote = "Then values are popped, one after the other from the top (the two slots of POP2 and DUP2 at once); for each"
                + " of them: error 3, there are fewer slots on the stack than it occupies; error 4, it is not what it must be"
                + " (also if only one slot of a LONG would be popped or moved).";
        String title = Edges.title("16, 17", quote);
        // IASTORE takes INT[], INT, INT: what is wrong above comes before what is missing below
        Steps.step(title, 0, " | 16", 40, 0, "error 4");
        Steps.step(title, 0, " | 0", 40, 0, "error 3");
        Steps.step(title, 0, " | 16 0", 40, 0, "error 4");
        Steps.step(title, 0, " | 0 0", 40, 0, "error 3");
        Steps.step(title, 0, " | 16 0 0", 40, 0, "error 4");
        Steps.step(title, 0, " | 16 16 0", 40, 0, "error 4");
        // a LONG wants two slots, whatever the only one contains
        for (int op : new int[] {8, 17, 19, 20, 28}) {
            Steps.step(title, 2, " |", op, 0, "error 3");
            Steps.step(title, 2, " | 16", op, 0, "error 3");
            Steps.step(title, 2, " | 0", op, 0, "error 3");
            Steps.step(title, 2, " | 16 0", op, 0, "error 4");
            Steps.step(title, 2, " | 8 -3 0", op, 0, "error 4");
        }
        // POP2 and DUP2 want both at once; the others look at the upper slot first
        for (int op : new int[] {11, 14}) {
            Steps.step(title, 0, " | 0", op, 0, "error 3");
            Steps.step(title, 0, " |", op, 0, "error 3");
            Steps.step(title, 0, " | 8 -3 0", op, 0, "error 4");
        }
        for (int op : new int[] {13, 15}) {
            Steps.step(title, 0, " | 0", op, 0, "error 3");
            Steps.step(title, 0, " | 8 -3", op, 0, "error 4");
            Steps.step(title, 0, " | 8 -3 0", op, 0, "error 4");
        }
        for (int op : new int[] {7, 9, 10, 12, 16, 18, 23, 24, 25, 26, 27, 29, 31, 38, 43}) {
            Steps.step(title, 1, " |", op, 2, "error 3");
            Steps.step(title, 1, " | 8 -3", op, 2, "error 4");
            Steps.step(title, 1, " | 0 8 -3", op, 2, "error 4");
        }
        for (int op : new int[] {32, 39, 41, 44, 45}) {
            Steps.step(title, 1, " |", op, 1, "error 3");
            Steps.step(title, 1, " | 8 -3", op, 1, "error 4");
        }
        String more = "NEW pops nothing; it has error 4 if its value is on the stack already.";
        Run run = edge(more);
        both(run.due("begin(0, 1, 1) = 0").code(34, 3, 34, 3), 6, 1, 2);
        both(run.due("begin(0, 0, 1) = 0").code(34, 3), 6, 0, 1);
        run.due("begin(0, 1, 1) = 0").code(30, 0, 34, 3).due("pushStack(-11) = 1; declareFrame(1, false) = 1; check() = 4;"
                + "errorPosition() = 1; pushStack(-10) = 1; declareFrame(1, false) = 1; check() = 6; declareFrame(1, false) = 1;"
                + "check() = 7");
    }

    private static void wrongReturns() {
        String quote = "For 27 to 30, error 9 is found after the values have been popped without an error 3 or 4: the method has"
                + " another result, or the frame has the mark at a RETURN; a value popped by ARETURN that is a reference, but not"
                + " assignable to the result, is also error 9.";
        // method 0 is VOID, 1 has the result A, 3 is a constructor
        Run run = edge(quote);
        int[][] rows = {{0, 27, 3, 4, 9, 4}, {0, 28, 3, 3, 3, 9}, {0, 29, 3, 9, 4, 4}, {1, 27, 3, 4, 9, 4}, {1, 28, 3, 3, 3, 9},
            {1, 29, 3, 0, 4, 4}, {1, 30, 9, 9, 9, 9}, {0, 30, 0, 0, 0, 0}};
        for (int[] row : rows) {
            int[] values = {0, 3, 1, 2};
            for (int k = 0; k < 4; k++) {
                run.due("begin(" + row[0] + ", 2, 1) = 0").code(values[k], 0, row[1], 0);
                run.due("infer() = " + row[2 + k] + "; check() = " + row[2 + k]
                        + "; errorPosition() = " + (row[2 + k] == 0 ? -1 : 1));
            }
        }
        Run references = edge(quote);
        int[][] casts = {{24, 0}, {32, 0}, {40, 0}, {16, 9}, {48, 9}, {25, 9}, {33, 9}, {1, 9}};
        for (int[] row : casts) {
            both(references.due("begin(1, 1, 1) = 0").code(3, 0, 44, row[0], 29, 0), row[1], row[1] == 0 ? -1 : 2, 3);
        }
        Run marks = edge(quote);
        both(marks.due("begin(3, 1, 1) = 1").code(30, 0), 9, 0, 1);
        both(marks.due("begin(3, 1, 1) = 1").code(6, 0, 29, 0), 4, 1, 2);
        both(marks.due("begin(3, 1, 1) = 1").code(3, 0, 29, 0), 9, 1, 2);
        both(marks.due("begin(3, 1, 1) = 1").code(3, 0, 31, 0), 0, -1, 2);
        both(marks.due("begin(3, 1, 1) = 1").code(6, 0, 35, 5, 30, 0), 0, -1, 3);
        both(marks.due("begin(5, 1, 1) = 1").code(30, 0), 0, -1, 1);
    }

    private static void tooHighLast() {
        String quote = "Last error 6: the stack would be higher than the maximum.";
        Run run = edge(quote);
        for (int height = 0; height <= 12; height++) {
            int[] code = new int[2 * height + 2];
            for (int k = 0; k < height; k++) {
                code[2 * k] = 1;
            }
            code[2 * height] = 30;
            both(run.due("begin(0, " + height + ", 0) = 0").code(code), 0, -1, height + 1);
            code[2 * height] = 1;
            both(run.due("begin(0, " + height + ", 0) = 0").code(code), 6, height, height + 1);
        }
        Run longs = edge(quote);
        both(longs.due("begin(0, 1, 0) = 0").code(2, 0), 6, 0, 1);
        both(longs.due("begin(0, 2, 0) = 0").code(2, 0, 30, 0), 0, -1, 2);
        both(longs.due("begin(0, 3, 0) = 0").code(2, 0, 2, 0), 6, 1, 2);
        both(longs.due("begin(0, 12, 0) = 0").code(2, 0, 2, 0, 2, 0, 2, 0, 2, 0, 2, 0, 30, 0), 0, -1, 7);
        both(longs.due("begin(0, 11, 0) = 0").code(2, 0, 2, 0, 2, 0, 2, 0, 2, 0, 2, 0, 30, 0), 6, 5, 6);
        both(longs.due("begin(0, 12, 0) = 0").code(2, 0, 2, 0, 2, 0, 2, 0, 2, 0, 2, 0, 14, 0), 6, 6, 7);
        // what is popped first makes room; a wrong value is found before the stack is too high
        both(longs.due("begin(0, 1, 0) = 0").code(1, 0, 38, 0, 43, 0, 30, 0), 0, -1, 4);
        both(longs.due("begin(0, 1, 0) = 0").code(1, 0, 18, 0), 6, 1, 2);
        both(longs.due("begin(0, 1, 0) = 0").code(3, 0, 18, 0), 4, 1, 2);
        both(longs.due("begin(0, 2, 0) = 0").code(2, 0, 19, 0, 18, 0, 30, 0), 0, -1, 4);
        both(longs.due("begin(0, 2, 0) = 0").code(2, 0, 12, 0), 4, 1, 2);
        both(longs.due("begin(0, 2, 0) = 0").code(1, 0, 1, 0, 13, 0), 6, 2, 3);
        both(longs.due("begin(0, 3, 0) = 0").code(1, 0, 1, 0, 13, 0, 30, 0), 0, -1, 4);
        both(longs.due("begin(0, 1, 0) = 0").code(1, 0, 13, 0), 3, 1, 2);
    }

    private static void noNextInstruction() {
        Run run = edge("Error 7: the next instruction does not exist.");
        both(run.due("begin(0, 1, 1) = 0").code(0, 0), 7, 0, 1);
        both(run.due("begin(0, 1, 1) = 0").code(0, 0, 1, 0), 7, 1, 2);
        both(run.due("begin(0, 1, 1) = 0").code(1, 0, 1, 0), 6, 1, 2);
        both(run.due("begin(0, 1, 1) = 0").code(1, 0, 23, 1), 7, 1, 2);
        both(run.due("begin(0, 1, 1) = 0").code(3, 0, 25, 0), 7, 1, 2);
        both(run.due("begin(0, 1, 1) = 0").code(0, 0, 30, 0), 0, -1, 2);
        run.due("begin(0, 1, 1) = 0").code(22, 0).due("infer() = 0; check() = 10; begin(0, 1, 1) = 0").code(30, 0, 0, 0)
                .due("infer() = 0; visits() = 1; declareFrame(1, false) = 1; check() = 7; errorPosition() = 1; visits() = 2");
        Run full = edge("Error 7: the next instruction does not exist.").due("begin(0, 1, 1) = 0");
        both(full.make("emit(0, 0);".repeat(100)), 7, 99, 100);
    }

    private static void positions() {
        String quote = "All errors found while an instruction is processed have its index as position.";
        int[][] wrong = {{10, 3}, {8, 3}, {4, 5}, {21, 5}, {27, 3}, {2, 6}, {29, 3}};
        for (int before : new int[] {0, 1, 50, 99}) {
            Run run = edge(quote);
            run.due("begin(0, 1, 2) = 0").make("emit(0, 0);".repeat(before)).code(10, 0);
            both(run, 3, before, before + 1);
        }
        Run run = edge(quote);
        for (int[] row : wrong) {
            both(run.due("begin(0, 1, 2) = 0").code(0, 0, 0, 0, row[0], 0), row[1], 2, 3);
        }
        both(run.due("begin(0, 1, 2) = 0").code(0, 0, 1, 0, 9, 0), 4, 2, 3);
        both(run.due("begin(0, 1, 2) = 0").code(0, 0, 1, 0, 27, 0), 9, 2, 3);
        both(run.due("begin(1, 1, 2) = 0").code(0, 0, 0, 0, 30, 0), 9, 2, 3);
        both(run.due("begin(0, 0, 2) = 0").code(0, 0, 0, 0, 30, 0).due("addHandler(2, 3, 0, 2) = 0"), 6, 2, 3);
        // error 8 and error 10 of a jump or a handler stand where the frame comes from, not where it goes
        run.due("begin(0, 1, 2) = 0").code(0, 0, 1, 0, 22, 0).due("infer() = 8; errorPosition() = 2; check() = 10;"
                + "errorPosition() = 2; begin(0, 1, 2) = 0").code(0, 0, 0, 0, 30, 0).due("addHandler(2, 3, 0, 2) = 0;"
                + "infer() = 8; errorPosition() = 2; check() = 10; errorPosition() = 2");
    }
}
