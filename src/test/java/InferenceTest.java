/** Promises 16, 18 and 19: infer, errorPosition, visits. */
final class InferenceTest {
    /** A 3, B 4 and C 5 below A, interface I 6; method 0 static and VOID, 1 static with the result A. */
    private static final String BASES = "declareClass(2, false) = 3; declareClass(3, false) = 4;"
            + "declareClass(3, false) = 5; declareClass(2, true) = 6; declareMethod(2, 1, -1) = 0;"
            + "declareMethod(2, 1, 24) = 1; declareMethod(4, 2, -1) = 2; declareMethod(3, 2, -1) = 3;"
            + "parameter(8) = 2; parameter(32) = 3; parameter(0) = 4; declareMethod(5, 0, -1) = 4;"
            + "declareField(4, 0) = 0;";

    public static void main(String[] args) {
        noCode();
        operands();
        branchTargets();
        handlerRanges();
        orderOfTheExamination();
        firstFrames();
        noNextInstruction();
        joins();
        stacksThatDoNotFit();
        marks();
        loops();
        handlers();
        handlersOfTheirOwn();
        smallestFirst();
        reports();
        Run.end();
    }

    private static Run run(String title) {
        return new Run(title).due(BASES);
    }

    private static void noCode() {
        new Run("no code").due("infer() = ISE; errorPosition() = -1; visits() = 0; declareMethod(2, 1, -1) = 0;"
                + "infer() = ISE; begin(0, 1, 1) = 0; infer() = 7; errorPosition() = 0; visits() = 0");
    }

    private static void operand(int op, int operand, boolean isAllowed) {
        Run run = run("operand " + operand + " of " + op).due("begin(0, 2, 3) = 0").code(22, 2, op, operand, 30, 0);
        run.due(isAllowed ? "infer() = 0; errorPosition() = -1; visits() = 2"
                : "infer() = 1; errorPosition() = 1; visits() = 0; hasFrame(0) = false; check() = 1");
    }

    private static void operands() {
        int[] far = {-1, Integer.MIN_VALUE, Integer.MAX_VALUE, 1000};
        int[] any = {0, 1, 2, 3, 10, 11, 12, 13, 14, 15, 16, 17, 18, 19, 20, 27, 28, 29, 30, 31, 39, 40, 41, 42, 43};
        for (int op : any) {
            for (int value : far) {
                operand(op, value, true);
            }
        }
        for (int op = 0; op <= 45; op++) {
            for (int value : far) {
                if ((op >= 4 && op <= 9) || (op >= 21 && op <= 26) || (op >= 32 && op <= 38) || op >= 44) {
                    operand(op, value, false);
                }
            }
        }
        for (int op : new int[] {4, 6, 7, 9, 21}) {
            operand(op, 0, true);
            operand(op, 2, true);
            operand(op, 3, false);
        }
        for (int op : new int[] {5, 8}) {
            operand(op, 0, true);
            operand(op, 1, true);
            operand(op, 2, false);
        }
        for (int op = 22; op <= 26; op++) {
            operand(op, 0, true);
            operand(op, 2, true);
            operand(op, 3, false);
        }
        for (int op = 32; op <= 33; op++) {
            operand(op, 0, true);
            operand(op, 1, false);
        }
        boolean[] classes = {false, false, true, true, true, true, false, false};
        for (int base = 0; base < classes.length; base++) {
            operand(34, base, classes[base]);
        }
        int[] kinds = {1, 1, 2, 2, 0};
        for (int method = 0; method < kinds.length; method++) {
            operand(35, method, kinds[method] == 2);
            operand(36, method, kinds[method] == 0);
            operand(37, method, kinds[method] == 1);
        }
        operand(35, 5, false);
        operand(36, 5, false);
        operand(37, 5, false);
        for (int type = 0; type < 60; type++) {
            operand(38, type, type < 56 && type % 8 <= 3);
            operand(44, type, type < 56 && type % 8 <= 4 && type != 0 && type != 8);
            operand(45, type, type < 56 && type % 8 <= 4 && type != 0 && type != 8);
        }
        for (int op : new int[] {4, 5, 6, 7, 8, 9, 21}) {
            for (int locals = 0; locals <= 1; locals++) {
                boolean isLong = op == 5 || op == 8;
                run("few local variables").due("begin(0, 2, " + locals + ") = 0").code(30, 0, op, 0)
                        .due("infer() = " + (locals == 0 || isLong ? 1 : 0));
            }
        }
        run("the first instruction").due("begin(0, 2, 1) = 0").code(4, 1, 30, 0, 4, 1)
                .due("infer() = 1; errorPosition() = 0; check() = 1; errorPosition() = 0");
        run("the members at the time of infer").due("begin(0, 2, 1) = 0").code(30, 0, 34, 7, 32, 1, 37, 5)
                .due("infer() = 1; errorPosition() = 1; declareClass(2, false) = 7; infer() = 1; errorPosition() = 2;"
                + "declareField(2, 0) = 1; infer() = 1; errorPosition() = 3; declareMethod(2, 1, 0) = 5; infer() = 0");
    }

    private static void branchTargets() {
        for (int op = 22; op <= 26; op++) {
            int push = op < 25 ? 1 : 3;
            run("the successors of " + op).due("begin(0, 2, 1) = 0").code(push, 0, push, 0, op, 5, 30, 0, 0, 0, 30, 0)
                    .due("infer() = 0; hasFrame(3) = " + (op != 22) + "; hasFrame(4) = false; stackHeight(5) = "
                    + (op == 22 ? 2 : op == 24 || op == 26 ? 0 : 1) + "; adoptFrames() = 1; visits() = " + (op == 22 ? 4 : 5));
        }
    }

    private static void ranges(boolean isAllowed, int... handlers) {
        Run run = run("handlers").due("begin(0, 1, 1) = 0").code(22, 2, 0, 0, 30, 0, 31, 0, 22, 3, 22, 3);
        for (int k = 0; k < handlers.length; k += 3) {
            run.make("addHandler(" + handlers[k] + ", " + handlers[k + 1] + ", " + handlers[k + 2] + ", 2)");
        }
        int last = handlers.length / 3 - 1;
        run.due(isAllowed ? "infer() = 0" : "infer() = 2; errorPosition() = " + last + "; visits() = 0; check() = 2;"
                + "errorPosition() = " + last);
    }

    private static void handlerRanges() {
        int min = Integer.MIN_VALUE;
        int max = Integer.MAX_VALUE;
        ranges(true, 0, 6, 3);
        ranges(true, 5, 6, 3);
        ranges(true, 0, 1, 3);
        ranges(false, 0, 0, 3);
        ranges(false, 2, 1, 3);
        ranges(false, -1, 1, 3);
        ranges(false, 0, 7, 3);
        ranges(false, 6, 7, 3);
        ranges(false, min, max, 3);
        ranges(false, max, min, 3);
        ranges(false, 0, max, 3);
        ranges(false, 0, 6, 6);
        ranges(false, 0, 6, -1);
        ranges(false, 0, 6, max);
        ranges(false, 0, 6, min);
        ranges(true, 1, 3, 3, 3, 5, 3);
        ranges(true, 3, 5, 3, 1, 3, 3);
        ranges(true, 1, 3, 3, 1, 3, 3);
        ranges(true, 1, 3, 3, 0, 3, 3);
        ranges(true, 1, 3, 3, 1, 4, 3);
        ranges(true, 1, 3, 3, 0, 6, 3);
        ranges(false, 1, 3, 3, 1, 2, 3);
        ranges(false, 1, 3, 3, 2, 3, 3);
        ranges(false, 1, 3, 3, 2, 4, 3);
        ranges(false, 1, 3, 3, 0, 2, 3);
        ranges(false, 0, 6, 3, 2, 4, 3);
        ranges(true, 0, 1, 3, 2, 3, 3, 4, 5, 3, 2, 5, 3, 0, 6, 3);
        ranges(false, 0, 1, 3, 2, 4, 3, 5, 6, 3, 0, 3, 3);
        ranges(false, 0, 1, 3, 2, 4, 3, 3, 6, 3);
    }

    private static void orderOfTheExamination() {
        run("errors 7, 1, 2, 11").due("begin(4, 1, 4) = 5; addHandler(0, 0, 0, 2) = 0; infer() = 7;"
                + "errorPosition() = 0; emit(30, 0) = 0; emit(4, 9) = 1; emit(5, 3) = 2; infer() = 1; errorPosition() = 1;"
                + "begin(4, 1, 4) = 5; addHandler(0, 1, 0, 2) = 0; addHandler(0, 0, 0, 2) = 1;"
                + "addHandler(-1, 0, 0, 2) = 2; emit(10, 0) = 0; infer() = 2; errorPosition() = 1; visits() = 0;"
                + "begin(4, 1, 4) = 5; emit(10, 0) = 0; infer() = 11; errorPosition() = 0; visits() = 0; check() = 11;"
                + "errorPosition() = 0; begin(4, 1, 5) = 5; emit(10, 0) = 0; infer() = 3; visits() = 1; check() = 3");
    }

    private static void firstFrames() {
        String slots = "stackHeight(0) = 0; localSlot(0, ";
        run("an instance method").due("begin(4, 0, 6) = 5; emit(30, 0) = 0; infer() = 0; isMarked(0) = false;"
                + slots + "0) = 40;" + slots + "1) = 8;" + slots + "2) = -3;" + slots + "3) = 32;" + slots + "4) = 0;"
                + slots + "5) = -2;" + slots + "6) = NSEE");
        run("a static method").due("begin(0, 0, 1) = 0; emit(30, 0) = 0; infer() = 0; isMarked(0) = false;"
                + slots + "0) = -2");
        run("a constructor").due("begin(2, 0, 2) = 1; emit(22, 0) = 0; infer() = 0; isMarked(0) = true;"
                + slots + "0) = -4;" + slots + "1) = -2");
        run("a constructor of Object").due("parameter(24) = 1; declareMethod(2, 2, -1) = 5; begin(5, 0, 3) = 2;"
                + "emit(30, 0) = 0; infer() = 0; isMarked(0) = false;" + slots + "0) = 16;" + slots + "1) = 24;"
                + slots + "2) = -2");
        run("a constructor with parameters").due("parameter(0) = 1; parameter(8) = 3; declareMethod(4, 2, -1) = 5;"
                + "begin(5, 0, 4) = 4; emit(22, 0) = 0; infer() = 0; isMarked(0) = true;" + slots + "0) = -4;"
                + slots + "1) = 0;" + slots + "2) = 8;" + slots + "3) = -3");
    }

    private static void noNextInstruction() {
        for (int op : new int[] {0, 1, 3, 12, 23, 25}) {
            run("the end").due("begin(0, 3, 1) = 0").code(op == 23 ? 1 : 3, 0, op, 0)
                    .due("infer() = 7; errorPosition() = 1; visits() = 2; check() = 7; errorPosition() = 1; visits() = 2");
        }
        run("error 6 before error 7").due("begin(0, 1, 1) = 0").code(1, 0, 1, 0).due("infer() = 6; errorPosition() = 1");
        run("error 7 before error 8").due("begin(0, 1, 1) = 0").code(1, 0, 1, 0, 24, 1).due("infer() = 6")
                .due("begin(0, 2, 1) = 0").code(1, 0, 1, 0, 24, 1).due("infer() = 7; errorPosition() = 2");
        run("an unreached end").due("begin(0, 1, 1) = 0").code(30, 0, 0, 0).due("infer() = 0; visits() = 1");
    }

    /** ICONST, IFEQ 5, ANULL, CHECKCAST first, GOTO 7, ANULL, CHECKCAST second, then the end. */
    private static Run diamond(int first, int second, int... end) {
        return run("join of " + first + " and " + second).due("begin(0, 3, 2) = 0")
                .code(1, 0, 23, 5, 3, 0, 44, first, 22, 7, 3, 0, 44, second).code(end);
    }

    private static void joins() {
        diamond(32, 40, 9, 0, 30, 0).due("infer() = 0; stackSlot(7, 0) = 24; localSlot(8, 0) = 24; visits() = 9");
        diamond(33, 41, 9, 0, 30, 0).due("infer() = 0; stackSlot(7, 0) = 25");
        diamond(32, 48, 9, 0, 30, 0).due("infer() = 0; stackSlot(7, 0) = 16");
        diamond(1, 9, 9, 0, 30, 0).due("infer() = 0; stackSlot(7, 0) = 16");
        diamond(32, 40, 33, 0, 30, 0).due("infer() = 4; errorPosition() = 7");
        run("NULL and a type").due("begin(0, 1, 1) = 0").code(3, 0, 25, 4, 3, 0, 22, 6, 3, 0, 44, 24, 10, 0, 30, 0)
                .due("infer() = 0; stackSlot(6, 0) = 24");
        run("local variables").due("begin(0, 2, 4) = 0")
                .code(1, 0, 23, 7, 1, 0, 7, 0, 2, 0, 8, 2, 22, 9, 3, 0, 9, 0, 30, 0)
                .due("infer() = 0; localSlot(6, 0) = 0; localSlot(6, 2) = 8; localSlot(6, 3) = -3; localSlot(9, 0) = -2;"
                + "localSlot(9, 1) = -2; localSlot(9, 2) = -2; localSlot(9, 3) = -2; stackHeight(9) = 0");
        run("LONGs that meet").due("begin(0, 2, 4) = 0")
                .code(2, 0, 8, 0, 1, 0, 23, 7, 2, 0, 8, 0, 22, 7, 30, 0).due("infer() = 0; localSlot(7, 0) = 8;"
                + "localSlot(7, 1) = -3");
        run("LONGs shifted by one").due("begin(0, 2, 4) = 0")
                .code(1, 0, 23, 5, 2, 0, 8, 0, 22, 7, 2, 0, 8, 1, 30, 0).due("infer() = 0; localSlot(7, 0) = -2;"
                + "localSlot(7, 1) = -2; localSlot(7, 2) = -2");
    }

    private static void stacksThatDoNotFit() {
        run("heights").due("begin(0, 2, 1) = 0").code(1, 0, 23, 3, 3, 0, 30, 0)
                .due("infer() = 8; errorPosition() = 2; visits() = 3; hasFrame(0) = false");
        run("INT and NULL").due("begin(0, 2, 1) = 0").code(1, 0, 23, 4, 3, 0, 22, 5, 1, 0, 30, 0)
                .due("infer() = 8; errorPosition() = 4; visits() = 5");
        run("LONG and two INTs").due("begin(0, 2, 1) = 0").code(1, 0, 23, 4, 2, 0, 22, 6, 1, 0, 1, 0, 30, 0)
                .due("infer() = 8; errorPosition() = 5");
        run("THIS and another object").due("begin(2, 2, 1) = 1").code(1, 0, 23, 4, 6, 0, 22, 5, 34, 4, 22, 5)
                .due("infer() = 8; errorPosition() = 4");
        run("two objects").due("begin(0, 2, 1) = 0").code(1, 0, 23, 4, 34, 4, 22, 5, 34, 4, 30, 0)
                .due("infer() = 8; errorPosition() = 4");
        run("the next instruction comes before the target").due("begin(0, 2, 1) = 0")
                .code(1, 0, 1, 0, 23, 0, 30, 0).due("infer() = 8; errorPosition() = 2; visits() = 3");
        run("the same slots").due("begin(2, 3, 1) = 1").code(6, 0, 1, 0, 23, 3, 22, 4, 22, 4)
                .due("infer() = 0; stackSlot(3, 0) = -4; stackSlot(4, 0) = -4");
    }

    private static void marks() {
        run("with the mark if one has it").due("begin(2, 1, 1) = 1")
                .code(6, 0, 25, 4, 6, 0, 35, 3, 22, 4).due("infer() = 0; isMarked(2) = true; isMarked(3) = true;"
                + "isMarked(4) = true; localSlot(4, 0) = -2; localSlot(3, 0) = -4");
        run("the mark comes later, and the target is processed again").due("begin(2, 2, 2) = 1")
                .code(1, 0, 23, 5, 6, 0, 35, 3, 22, 5, 22, 5).due("infer() = 0; isMarked(5) = true; visits() = 6");
        run("a mark that comes later alone").due("begin(2, 2, 1) = 1")
                .code(3, 0, 25, 6, 6, 0, 35, 3, 3, 0, 9, 0, 3, 0, 9, 0, 30, 0)
                .due("infer() = 9; errorPosition() = 8; visits() = 9");
        run("a mark that comes second").due("begin(2, 1, 1) = 1").code(3, 0, 25, 5, 6, 0, 35, 3, 22, 6, 0, 0, 22, 6)
                .due("infer() = 0; isMarked(4) = false; isMarked(6) = true; visits() = 7");
        run("no way back from the mark").due("begin(2, 1, 1) = 1").code(30, 0).due("infer() = 9; errorPosition() = 0");
    }

    private static void loops() {
        run("a loop that changes nothing").due("begin(0, 1, 1) = 0").code(1, 0, 7, 0, 21, 0, 22, 2)
                .due("infer() = 0; visits() = 4");
        run("a loop that makes INT to TOP").due("begin(0, 1, 1) = 0").code(1, 0, 7, 0, 3, 0, 9, 0, 22, 2)
                .due("infer() = 0; visits() = 7; localSlot(2, 0) = -2; localSlot(3, 0) = -2; localSlot(4, 0) = -1");
        run("a loop that climbs to Object").due("begin(0, 1, 2) = 0")
                .code(3, 0, 44, 32, 9, 0, 3, 0, 44, 40, 9, 1, 3, 0, 25, 13, 6, 1, 9, 0, 3, 0, 44, 48, 9, 1, 22, 6, 30, 0)
                .due("infer() = 0; localSlot(6, 0) = 16; localSlot(6, 1) = 16; localSlot(13, 0) = 16; visits() = 26; hasFrame(14) = false");
        run("an error in the second round").due("begin(0, 1, 1) = 0").code(1, 0, 7, 0, 21, 0, 3, 0, 9, 0, 22, 2)
                .due("infer() = 5; errorPosition() = 2; visits() = 7; hasFrame(0) = false; adoptFrames() = ISE");
        run("index 0 is a target").due("begin(4, 1, 5) = 5").code(3, 0, 9, 0, 22, 0)
                .due("infer() = 0; localSlot(0, 0) = 40; localSlot(2, 0) = -1; visits() = 3");
        run("the first frame is joined").due("begin(4, 1, 5) = 5").code(3, 0, 44, 32, 9, 0, 22, 0)
                .due("infer() = 0; localSlot(0, 0) = 24; visits() = 7");
    }

    private static void handlers() {
        run("local variables before the instruction").due("begin(0, 1, 1) = 0")
                .code(1, 0, 7, 0, 30, 0, 9, 0, 30, 0).due("addHandler(0, 2, 3, 3) = 0; infer() = 0; stackHeight(3) = 1;"
                + "stackSlot(3, 0) = 24; localSlot(3, 0) = -2; localSlot(2, 0) = 0; visits() = 5");
        run("behind the store").due("begin(0, 1, 1) = 0").code(1, 0, 7, 0, 0, 0, 30, 0, 9, 0, 30, 0)
                .due("addHandler(2, 3, 4, 5) = 0; infer() = 0; stackSlot(4, 0) = 40; localSlot(4, 0) = 0");
        run("the ends of the range").due("begin(0, 1, 1) = 0").code(22, 2, 0, 0, 30, 0, 31, 0, 31, 0)
                .due("addHandler(1, 2, 3, 2) = 0; infer() = 0; hasFrame(3) = false; addHandler(1, 3, 4, 2) = 1;"
                + "infer() = 0; hasFrame(3) = false; hasFrame(4) = true; stackSlot(4, 0) = 16; hasFrame(1) = false;"
                + "addHandler(0, 3, 3, 2) = 2; infer() = 0; hasFrame(3) = true");
        run("two classes at one target").due("begin(0, 2, 1) = 0").code(0, 0, 0, 0, 30, 0, 31, 0)
                .due("addHandler(0, 1, 3, 4) = 0; addHandler(1, 2, 3, 5) = 1; infer() = 0; stackSlot(3, 0) = 24;"
                + "visits() = 4");
        run("no room for the class").due("begin(0, 0, 1) = 0").code(0, 0, 0, 0, 30, 0)
                .due("addHandler(1, 2, 2, 2) = 0; infer() = 6; errorPosition() = 1; visits() = 2; check() = 6;"
                + "errorPosition() = 1; visits() = 2");
        run("no room, but no use").due("begin(0, 0, 1) = 0").code(30, 0, 30, 0)
                .due("addHandler(1, 2, 0, 2) = 0; infer() = 0; check() = 10; errorPosition() = 1");
        run("a handler comes before the instruction").due("begin(0, 0, 1) = 0").code(10, 0)
                .due("addHandler(0, 1, 0, 2) = 0; infer() = 6; begin(0, 1, 1) = 0").code(10, 0)
                .due("addHandler(0, 1, 0, 2) = 0; infer() = 8; errorPosition() = 0; visits() = 1");
        run("the mark goes to the handler").due("begin(2, 1, 1) = 1").code(6, 0, 35, 3, 30, 0, 31, 0)
                .due("addHandler(0, 2, 3, 2) = 0; infer() = 0; isMarked(3) = true; localSlot(3, 0) = -4;"
                + "addHandler(0, 3, 3, 2) = 1; infer() = 0; isMarked(3) = true; localSlot(3, 0) = -2");
        run("behind the constructor").due("begin(2, 1, 1) = 1").code(6, 0, 35, 3, 30, 0, 31, 0)
                .due("addHandler(2, 3, 3, 2) = 0; infer() = 0; isMarked(3) = false; localSlot(3, 0) = 32");
    }

    /** A handler in its own range: the instruction is processed with the frame that it had. */
    private static void handlersOfTheirOwn() {
        run("own range").due("begin(0, 1, 1) = 0").code(3, 0, 44, 32, 9, 0, 30, 0)
                .due("addHandler(2, 3, 2, 5) = 0; infer() = 0; stackSlot(2, 0) = 24; visits() = 5; localSlot(3, 0) = 24;"
                + "localSlot(2, 0) = -2");
        run("the frame that it had").due("declareField(4, 24) = 1; begin(0, 2, 1) = 0").code(3, 0, 44, 32, 32, 0, 30, 0)
                .due("addHandler(2, 3, 2, 5) = 0; infer() = 4; errorPosition() = 2; visits() = 4");
        run("two handlers in order").due("begin(0, 1, 1) = 0").code(3, 0, 44, 32, 10, 0, 30, 0)
                .due("addHandler(2, 3, 2, 4) = 0; addHandler(2, 3, 2, 5) = 1; infer() = 0; stackSlot(2, 0) = 24;"
                + "visits() = 5");
    }

    private static void smallestFirst() {
        run("the smallest pending index").due("begin(0, 1, 1) = 0").code(22, 3, 10, 0, 30, 0, 1, 0, 23, 2, 3, 0, 22, 1)
                .due("infer() = 0; visits() = 7");
        run("a join before it is processed").due("begin(0, 1, 1) = 0")
                .code(1, 0, 23, 5, 1, 0, 7, 0, 22, 7, 3, 0, 9, 0, 30, 0).due("infer() = 0; visits() = 8");
        run("a target before the place").due("begin(0, 1, 1) = 0")
                .code(22, 4, 0, 0, 0, 0, 30, 0, 1, 0, 7, 0, 1, 0, 23, 1, 3, 0, 9, 0, 22, 1)
                .due("infer() = 0; visits() = 14; localSlot(1, 0) = -2");
    }

    private static void reports() {
        run("the latest call").due("errorPosition() = -1; visits() = 0; infer() = ISE; check() = ISE;"
                + "errorPosition() = -1; visits() = 0; begin(0, 1, 1) = 0; emit(0, 0) = 0; emit(10, 0) = 1; infer() = 3;"
                + "errorPosition() = 1; visits() = 2; emit(30, 0) = 2; errorPosition() = 1; visits() = 2;"
                + "begin(0, 1, 1) = 0; errorPosition() = 1; visits() = 2; emit(30, 0) = 0; infer() = 0;"
                + "errorPosition() = -1; visits() = 1; emit(30, 0) = 1; check() = 10; errorPosition() = 1; visits() = 1;"
                + "infer() = 0; errorPosition() = -1; visits() = 1");
        run("each call begins anew").due("begin(0, 1, 1) = 0").code(1, 0, 23, 3, 30, 0, 30, 0)
                .due("infer() = 0; visits() = 4; infer() = 0; visits() = 4; begin(0, 1, 1) = 0")
                .code(1, 0, 23, 3, 10, 0, 30, 0).due("infer() = 3; errorPosition() = 2; visits() = 3; infer() = 3;"
                + "errorPosition() = 2; visits() = 3; begin(0, 1, 1) = 0").code(22, 0, 0, 0, 0, 0, 0, 0)
                .due("infer() = 0; visits() = 1; hasFrame(3) = false");
        run("an error takes the frames").due("begin(0, 1, 1) = 0; emit(22, 0) = 0; infer() = 0; hasFrame(0) = true;"
                + "check() = 10; hasFrame(0) = true; emit(34, 19) = 1; infer() = 1; hasFrame(0) = false;"
                + "begin(1, 1, 1) = 0; emit(30, 0) = 0; infer() = 9; hasFrame(0) = false; stackHeight(0) = ISE");
    }
}
