/** Edges of the examination, with which infer and check begin (promises 16 and 17). */
final class ExaminationEdges {
    private static final int MIN = Edges.MIN;
    private static final int MAX = Edges.MAX;

    /** A 3, the interface I 4, B 5; methods of Object: 0 and 3 static, 1 a constructor, 2 an instance method. */
    private static final String BASES = "declareClass(2, false) = 3; declareClass(2, true) = 4; declareClass(3, false) = 5;"
            + "declareMethod(2, 1, -1) = 0; declareMethod(2, 2, -1) = 1; declareMethod(2, 0, -1) = 2;"
            + "declareMethod(2, 1, 0) = 3;";

    private ExaminationEdges() {
    }

    static void run() {
        localOperands();
        targetOperands();
        fieldOperands();
        classOperands();
        methodOperands();
        typeOperands();
        fullTables();
        freeOperands();
        noInstructions();
        firstOperand();
        handlerRanges();
        handlerTargets();
        firstHandler();
        manyHandlers();
        neededLocals();
    }

    /** The instruction stands last and is not reached: check comes to it only if the examination lets it. */
    private static void operand(String quote, String before, int locals, int op, int operand, boolean isAllowed) {
        Run run = Edges.edge("16, 17", quote).due(BASES + before + "begin(0, 2, " + locals + ") = 0");
        run.code(30, 0, op, operand).due(isAllowed
                ? "infer() = 0; errorPosition() = -1; visits() = 1; check() = 10; errorPosition() = 1; visits() = 1"
                : "infer() = 1; errorPosition() = 1; visits() = 0; hasFrame(0) = false; check() = 1; errorPosition() = 1;"
                + "visits() = 0");
    }

    private static void localOperands() {
        String quote = "4 to 9 and 21: n from 0 to the number of local variables minus 1 (LONG: minus 2)";
        for (int op : new int[] {4, 5, 6, 7, 8, 9, 21}) {
            int width = op == 5 || op == 8 ? 2 : 1;
            for (int locals : new int[] {0, 1, 2, 3, 11, 12}) {
                int last = locals - width;
                for (int operand : new int[] {-1, 0, last, last + 1, last + 2, 100, MIN, MAX, MAX - 1}) {
                    operand(quote, "", locals, op, operand, operand >= 0 && operand <= last);
                }
            }
        }
    }

    private static void targetOperands() {
        for (int op = 22; op <= 26; op++) {
            for (int operand : new int[] {-1, 0, 1, 2, 3, 99, 100, MIN, MAX}) {
                operand("22 to 26: an index of the code", "", 1, op, operand, operand == 0 || operand == 1);
            }
        }
        Run full = Edges.edge("16, 17", "22 to 26: an index of the code").due(BASES + "begin(0, 1, 1) = 0; emit(22, 99) = 0");
        full.make("emit(30, 0);".repeat(98)).due("infer() = 1; errorPosition() = 0; emit(30, 0) = 99; infer() = 0;"
                + "hasFrame(99) = true; visits() = 2; begin(0, 1, 1) = 0; emit(22, 100) = 0");
        full.make("emit(30, 0);".repeat(99)).due("infer() = 1; errorPosition() = 0; check() = 1");
    }

    private static void fieldOperands() {
        String quote = "32, 33: a field";
        StringBuilder thirty = new StringBuilder();
        for (int field = 0; field < 30; field++) {
            thirty.append("declareField(2, 0) = ").append(field).append(";");
        }
        for (int op : new int[] {32, 33}) {
            for (int operand : new int[] {-1, 0, 1, 2, 3, 28, 29, 30, MIN, MAX}) {
                operand(quote, "", 1, op, operand, false);
                operand(quote, "declareField(2, 0) = 0; declareField(3, 8) = 1;", 1, op, operand,
                        operand == 0 || operand == 1);
                operand(quote, thirty.toString(), 1, op, operand, operand >= 0 && operand <= 29);
            }
        }
    }

    private static void classOperands() {
        String quote = "34: a class, not an interface (and not INT or LONG)";
        for (int operand : new int[] {-1, 0, 1, 2, 3, 4, 5, 6, 7, 19, 20, 24, MIN, MAX}) {
            operand(quote, "", 1, 34, operand, operand == 2 || operand == 3 || operand == 5);
        }
    }

    private static void methodOperands() {
        String quote = "35 to 37: a method of the kind that is named";
        for (int operand : new int[] {-1, 0, 1, 2, 3, 4, 5, 29, 30, MIN, MAX}) {
            operand(quote, "", 1, 35, operand, operand == 1);
            operand(quote, "", 1, 36, operand, operand == 2);
            operand(quote, "", 1, 37, operand, operand == 0 || operand == 3);
        }
    }

    private static void typeOperands() {
        for (int type = 0; type <= 56; type++) {
            boolean isBase = type / 8 <= 5;
            operand("38: a type with at most 3 dimensions", "", 1, 38, type, isBase && type % 8 <= 3);
            boolean isReference = isBase && type % 8 <= 4 && type != 0 && type != 8;
            operand("44, 45: a reference type", "", 1, 44, type, isReference);
            operand("44, 45: a reference type", "", 1, 45, type, isReference);
        }
        for (int value : new int[] {-1, -2, -3, -4, -10, -16, 152, 160, MIN, MAX, MAX - 7}) {
            operand("38: a type with at most 3 dimensions", "", 1, 38, value, false);
            operand("44, 45: a reference type", "", 1, 44, value, false);
            operand("44, 45: a reference type", "", 1, 45, value, false);
        }
    }

    /** Operands just inside and just outside of full tables. */
    private static void fullTables() {
        StringBuilder bases = new StringBuilder();
        for (int base = 6; base < 20; base++) {
            bases.append("declareClass(3, false) = ").append(base).append(";");
        }
        StringBuilder methods = new StringBuilder();
        for (int method = 4; method < 30; method++) {
            methods.append("declareMethod(2, ").append(method % 3).append(", -1) = ").append(method).append(";");
        }
        for (int operand : new int[] {18, 19, 20, 21}) {
            operand("34: a class, not an interface (and not INT or LONG)", bases.toString(), 1, 34, operand, operand <= 19);
        }
        for (int type : new int[] {152, 155, 156, 157, 159, 160, 161}) {
            operand("38: a type with at most 3 dimensions", bases.toString(), 1, 38, type, type <= 155);
            operand("44, 45: a reference type", bases.toString(), 1, 44, type, type <= 156);
            operand("44, 45: a reference type", bases.toString(), 1, 45, type, type <= 156);
        }
        for (int operand : new int[] {26, 27, 28, 29, 30, 31}) {
            for (int op = 35; op <= 37; op++) {
                int kind = op == 35 ? 2 : op - 36;
                operand("35 to 37: a method of the kind that is named", methods.toString(), 1, op, operand,
                        operand <= 29 && operand % 3 == kind);
            }
        }
    }

    private static void freeOperands() {
        String quote = "For all others the operand has no meaning and can be any number";
        for (int op : new int[] {0, 1, 2, 3, 10, 11, 12, 13, 14, 15, 16, 17, 18, 19, 20, 27, 28, 29, 30, 31, 39, 40, 41, 42,
            43}) {
            for (int operand : new int[] {-1, 0, 1, 100, MIN, MAX}) {
                operand(quote, "", 0, op, operand, true);
            }
        }
    }

    // ---- the errors in their order

    private static void noInstructions() {
        String quote = "Before it, the code is examined: error 7 at position 0 if there are no instructions";
        Edges.edge("16, 17", quote).due(BASES + "begin(1, 0, 0) = 1; infer() = 7; errorPosition() = 0; visits() = 0;"
                + "check() = 7; errorPosition() = 0; visits() = 0; addHandler(-1, -1, -1, 2) = 0; infer() = 7;"
                + "errorPosition() = 0; check() = 7; errorPosition() = 0; emit(30, 0) = 0; infer() = 2");
    }

    private static void firstOperand() {
        String quote = "then error 1, at the first instruction whose operand is not allowed";
        Edges.edge("16, 17", quote).due(BASES + "begin(0, 1, 1) = 0").code(4, 0, 4, 1, 22, 9, 30, 0)
                .due("infer() = 1; errorPosition() = 1; check() = 1; errorPosition() = 1; begin(0, 1, 1) = 0")
                .code(4, 1, 4, 1).due("infer() = 1; errorPosition() = 0; check() = 1; errorPosition() = 0");
        // error 5 would come at 0, error 2 and error 11 too
        Edges.edge("16, 17", quote).due(BASES + "begin(1, 0, 0) = 1; addHandler(0, 0, 0, 2) = 0").code(30, 0, 30, 0, 44, 8)
                .due("infer() = 1; errorPosition() = 2; visits() = 0; check() = 1; errorPosition() = 2; visits() = 0");
        Run last = Edges.edge("16, 17", quote).due(BASES + "begin(0, 1, 1) = 0").make("emit(10, 0);".repeat(99));
        last.due("emit(21, 1) = 99; infer() = 1; errorPosition() = 99; check() = 1; errorPosition() = 99");
    }

    private static void ranges(boolean isRight, int... numbers) {
        String quote = "then error 2, at the first handler (position: its number) for which not 0 <= start < end <= number of"
                + " instructions, or whose target is not an index of the code, or whose range is not disjoint from, and does"
                + " not contain, the range of a handler with a smaller number";
        Run run = Edges.edge("16, 17", quote).due(BASES + "begin(0, 1, 1) = 0").code(30, 0, 30, 0, 30, 0, 30, 0, 30, 0, 31, 0);
        for (int k = 0; k < numbers.length; k += 2) {
            run.make("addHandler(" + numbers[k] + ", " + numbers[k + 1] + ", 5, 2)");
        }
        int last = numbers.length / 2 - 1;
        run.due(isRight ? "infer() = 0; errorPosition() = -1; check() = 10"
                : "infer() = 2; errorPosition() = " + last + "; visits() = 0; check() = 2; errorPosition() = " + last
                + "; visits() = 0; hasFrame(0) = false");
    }

    /** The code has six instructions; the last handler is the one in question. */
    private static void handlerRanges() {
        int[][] wrong = {{0, 0}, {5, 5}, {6, 6}, {6, 7}, {3, 2}, {-1, 0}, {-1, 1}, {-1, 6}, {0, 7}, {5, 7}, {0, MAX},
            {MIN, 6}, {MIN, MAX}, {MAX, MIN}, {0, MIN}, {MAX, MAX}, {7, 6}};
        for (int[] range : wrong) {
            ranges(false, range);
        }
        for (int[] range : new int[][] {{0, 1}, {0, 6}, {5, 6}, {1, 5}, {2, 3}}) {
            ranges(true, range);
        }
        // disjoint: in front of the other one, behind it, at its ends
        ranges(true, 2, 4, 4, 6);
        ranges(true, 2, 4, 0, 2);
        ranges(true, 2, 4, 5, 6);
        ranges(true, 2, 4, 0, 1);
        // containing it: equal, with one end in common, with none
        ranges(true, 2, 4, 2, 4);
        ranges(true, 2, 4, 1, 4);
        ranges(true, 2, 4, 2, 5);
        ranges(true, 2, 4, 0, 6);
        // contained in it, or overlapping
        ranges(false, 2, 4, 2, 3);
        ranges(false, 2, 4, 3, 4);
        ranges(false, 1, 4, 2, 3);
        ranges(false, 0, 6, 5, 6);
        ranges(false, 2, 4, 3, 5);
        ranges(false, 2, 4, 1, 3);
        ranges(false, 2, 4, 0, 3);
        ranges(false, 2, 4, 3, 6);
        // more than one with a smaller number
        ranges(true, 0, 1, 1, 2, 0, 2);
        ranges(true, 0, 1, 2, 3, 0, 4, 0, 6);
        ranges(false, 0, 1, 2, 4, 0, 3);
        ranges(false, 0, 2, 3, 4, 1, 6);
        ranges(false, 0, 1, 0, 2, 0, 6, 5, 6);
    }

    private static void handlerTargets() {
        String quote = "or whose target is not an index of the code";
        for (int target : new int[] {-1, 2, 3, 99, 100, MIN, MAX}) {
            Edges.edge("16, 17", quote).due(BASES + "begin(0, 1, 1) = 0").code(30, 0, 31, 0).due("addHandler(0, 1, " + target
                    + ", 2) = 0; infer() = 2; errorPosition() = 0; check() = 2; errorPosition() = 0");
        }
        Edges.edge("16, 17", quote).due(BASES + "begin(0, 1, 1) = 0").code(30, 0, 31, 0).due("addHandler(0, 1, 1, 2) = 0;"
                + "infer() = 0; addHandler(0, 1, 2, 2) = 1; infer() = 2; errorPosition() = 1; begin(0, 1, 1) = 0")
                .code(22, 1, 30, 0).due("addHandler(1, 2, 0, 2) = 0; infer() = 8; errorPosition() = 1");
    }

    private static void firstHandler() {
        String quote = "then error 2, at the first handler (position: its number)";
        Edges.edge("16, 17", quote).due(BASES + "begin(1, 0, 0) = 1").code(10, 0).due("addHandler(0, 1, 0, 2) = 0;"
                + "addHandler(0, 1, 1, 2) = 1; addHandler(0, 2, 0, 2) = 2; infer() = 2; errorPosition() = 1; check() = 2;"
                + "errorPosition() = 1; visits() = 0; begin(1, 0, 0) = 1").code(10, 0).due("addHandler(1, 1, 0, 2) = 0;"
                + "addHandler(0, 1, 0, 2) = 1; infer() = 2; errorPosition() = 0; check() = 2; errorPosition() = 0");
    }

    private static void manyHandlers() {
        String quote = "the range of a handler with a smaller number";
        Run run = Edges.edge("16, 17", quote).due(BASES + "begin(0, 1, 1) = 0").make("emit(30, 0);".repeat(100));
        for (int handler = 0; handler < 9; handler++) {
            run.due("addHandler(" + (99 - 11 * handler) + ", 100, 1, 2) = " + handler);
        }
        run.due("infer() = 0; visits() = 1; addHandler(12, 100, 1, 2) = 9; infer() = 2; errorPosition() = 9; check() = 2;"
                + "errorPosition() = 9");
        Run nested = Edges.edge("16, 17", quote).due(BASES + "begin(0, 1, 1) = 0").make("emit(30, 0);".repeat(100));
        for (int handler = 0; handler < 10; handler++) {
            nested.due("addHandler(" + (99 - 11 * handler) + ", 100, 1, 2) = " + handler);
        }
        nested.due("infer() = 0; visits() = 2; stackHeight(1) = 1; hasFrame(2) = false");
    }

    private static void neededLocals() {
        String quote = "Then error 11, position 0: the method needs more local variables for its first frame than the code has";
        String full = "parameter(8) = 2; parameter(8) = 4; parameter(8) = 6;";
        Run run = Edges.edge("16, 17", quote).due(BASES + full + "declareMethod(3, 0, -1) = 4;" + full
                + "declareMethod(3, 1, -1) = 5; parameter(0) = 1; declareMethod(3, 2, -1) = 6; declareMethod(3, 0, -1) = 7");
        int[][] rows = {{0, 0}, {1, 1}, {2, 1}, {4, 7}, {5, 6}, {6, 2}, {7, 1}};
        for (int[] row : rows) {
            for (int locals = Math.max(0, row[1] - 1); locals <= row[1] + 1; locals++) {
                run.due("begin(" + row[0] + ", 0, " + locals + ") = " + row[1]).code(10, 0).due(locals < row[1]
                        ? "infer() = 11; errorPosition() = 0; visits() = 0; check() = 11; errorPosition() = 0; visits() = 0"
                        : "infer() = 3; errorPosition() = 0; visits() = 1; check() = 3; errorPosition() = 0; visits() = 1");
            }
        }
        Edges.edge("16, 17", quote).due(BASES + "begin(1, 1, 0) = 1").code(30, 0, 31, 0).due("addHandler(0, 1, 9, 2) = 0;"
                + "infer() = 2; errorPosition() = 0; check() = 2; begin(1, 1, 0) = 1").code(30, 0, 31, 0)
                .due("addHandler(1, 2, 0, 2) = 0; infer() = 11; errorPosition() = 0; check() = 11; errorPosition() = 0;"
                + "hasFrame(0) = false");
    }
}
