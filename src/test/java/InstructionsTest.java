/**
 * Section 3, as infer and check (promises 16 and 17) use it: what each instruction requires and
 * does. A step is an instruction between two declared frames: "locals | stack", a mark as "!".
 */
final class InstructionsTest {
    private static final int HEIGHT = 6;
    private static final int LOCALS = 4;

    /** A 3, B 4 below A, interface I 5, C 6. The methods are told where they are used. */
    private static final String BASES = "declareClass(2, false) = 3; declareClass(3, false) = 4;"
            + "declareClass(2, true) = 5; declareClass(2, false) = 6;"
            + "declareField(3, 0) = 0; declareField(3, 8) = 1; declareField(3, 24) = 2;"
            + "declareField(6, 1) = 3; declareField(2, 40) = 4; declareField(4, 32) = 5;"
            + "declareMethod(3, 1, -1) = 0; declareMethod(3, 1, 0) = 1; declareMethod(3, 1, 8) = 2;"
            + "declareMethod(3, 1, 24) = 3; declareMethod(3, 1, 25) = 4; declareMethod(4, 2, -1) = 5;"
            + "declareMethod(3, 2, -1) = 6; declareMethod(2, 2, -1) = 7; parameter(0) = 1; parameter(8) = 3;"
            + "parameter(24) = 4; declareMethod(3, 2, -1) = 8; declareMethod(3, 0, -1) = 9; parameter(8) = 2;"
            + "parameter(0) = 3; declareMethod(3, 0, 8) = 10; parameter(40) = 1; declareMethod(5, 0, 24) = 11;"
            + "parameter(24) = 1; parameter(1) = 2; declareMethod(6, 1, 1) = 12; declareMethod(6, 2, -1) = 13;"
            + "declareMethod(3, 1, 40) = 14;";

    private static int method = 0;

    public static void main(String[] args) {
        constantsAndLocals();
        longsInLocals();
        moves();
        numbers();
        branches();
        ends();
        fields();
        fieldsOfThis();
        creation();
        constructors();
        thisConstructors();
        calls();
        arrays();
        casts();
        fullStack();
        Run.end();
    }

    /** Checks one instruction; the frame behind it is "error n" if this error is due. */
    private static void step(String before, int op, int operand, String after) {
        Run run = new Run("method " + method + ", instruction " + op + " " + operand + " at " + before);
        run.due(BASES).make("begin(" + method + ", " + HEIGHT + ", " + LOCALS + ")");
        run.code(22, 0, op, operand, 22, 2);
        declare(run, 0, "! |");
        declare(run, 1, before);
        if (after.startsWith("error ")) {
            declare(run, 2, "! |");
            run.due("check() = " + after.substring(6) + "; errorPosition() = 1; visits() = 2");
        } else {
            declare(run, 2, after);
            run.due("check() = 0; visits() = 3");
        }
    }

    private static void declare(Run run, int index, String frame) {
        boolean isMarked = frame.startsWith("!");
        String[] sides = frame.replace("!", "").split("\\|", -1);
        push(run, "pushLocal", sides[0].trim());
        push(run, "pushStack", sides[1].trim());
        run.make("declareFrame(" + index + ", " + isMarked + ")");
    }

    private static void push(Run run, String call, String slots) {
        if (!slots.isEmpty()) {
            for (String slot : slots.split(" ")) {
                run.make(call + "(" + slot + ")");
            }
        }
    }

    private static void constantsAndLocals() {
        step("0 | 16", 0, -7, "0 | 16");
        step(" |", 1, 99, " | 0");
        step(" |", 2, 99, " | 8 -3");
        step(" |", 3, 99, " | -1");
        step("0 |", 4, 0, "0 | 0");
        for (String local : new String[] {"-2", "-1", "16", "1", "8 -3", "-4", "-10"}) {
            step(local + " |", 4, 0, "error 5");
            step(local + " |", 21, 0, "error 5");
        }
        step("8 -3 |", 4, 1, "error 5");
        step("8 -3 |", 5, 0, "8 -3 | 8 -3");
        step("8 -3 0 |", 5, 1, "error 5");
        step("0 0 |", 5, 0, "error 5");
        step("-2 |", 5, 0, "error 5");
        for (String local : new String[] {"-1", "16", "1", "9", "40", "-4", "-10", "-109"}) {
            step(local + " |", 6, 0, local + " | " + local);
            step(" | " + local, 9, 3, "-2 -2 -2 " + local + " |");
            step(" | " + local, 7, 0, "error 4");
        }
        for (String local : new String[] {"-2", "0", "8 -3"}) {
            step(local + " |", 6, 0, "error 5");
        }
        step("8 -3 |", 6, 1, "error 5");
        step(" | 0", 7, 3, "-2 -2 -2 0 |");
        step(" | 16 0", 7, 0, "0 | 16");
        step(" |", 7, 0, "error 3");
        step(" | 8 -3", 7, 0, "error 4");
        step(" | -2", 7, 0, "error 4");
        step(" | 8 -3", 8, 2, "-2 -2 8 -3 |");
        step(" |", 8, 0, "error 3");
        step(" | 0", 8, 0, "error 3");
        step(" | 0 0", 8, 0, "error 4");
        step(" | 8 -3 0", 8, 0, "error 4");
        step(" | 0", 9, 0, "error 4");
        step(" | -2", 9, 0, "error 4");
        step(" | 8 -3", 9, 0, "error 4");
        step(" |", 9, 0, "error 3");
        step("0 |", 21, 0, "0 |");
        step("8 -3 |", 21, 1, "error 5");
    }

    private static Run plain(String title, int locals, int... code) {
        return new Run(title).due(BASES + "begin(0, 4, " + locals + ") = 0").code(code);
    }

    private static void longsInLocals() {
        plain("the high half is overwritten", 3, 2, 0, 8, 0, 1, 0, 7, 1, 30, 0)
                .due("infer() = 0; localSlot(2, 0) = 8; localSlot(2, 1) = -3; localSlot(2, 2) = -2;"
                + "localSlot(4, 0) = -2; localSlot(4, 1) = 0; localSlot(4, 2) = -2");
        plain("the low half is overwritten", 3, 2, 0, 8, 0, 3, 0, 9, 0, 30, 0)
                .due("infer() = 0; localSlot(4, 0) = -1; localSlot(4, 1) = -2; localSlot(4, 2) = -2");
        plain("a LONG between two", 4, 2, 0, 8, 0, 2, 0, 8, 2, 2, 0, 8, 1, 30, 0)
                .due("infer() = 0; localSlot(4, 2) = 8; localSlot(4, 3) = -3; localSlot(6, 0) = -2;"
                + "localSlot(6, 1) = 8; localSlot(6, 2) = -3; localSlot(6, 3) = -2");
        plain("a LONG on itself", 2, 2, 0, 8, 0, 2, 0, 8, 0, 30, 0)
                .due("infer() = 0; localSlot(4, 0) = 8; localSlot(4, 1) = -3");
        plain("a LONG one lower", 3, 2, 0, 8, 1, 2, 0, 8, 0, 30, 0)
                .due("infer() = 0; localSlot(4, 0) = 8; localSlot(4, 1) = -3; localSlot(4, 2) = -2");
        plain("a LONG in the last two of twelve", 12, 2, 0, 8, 10, 1, 0, 7, 10, 2, 0, 8, 10, 1, 0, 7, 11, 30, 0)
                .due("infer() = 0; localSlot(4, 10) = 0; localSlot(4, 11) = -2; localSlot(8, 10) = -2;"
                + "localSlot(8, 11) = 0");
        step("8 -3 |", 5, 0, "8 -3 | 8 -3");
        step("8 -3 8 -3 | 0", 7, 1, "-2 0 8 -3 |");
        step("8 -3 8 -3 | -1", 9, 2, "8 -3 -1 -2 |");
    }

    private static void moves() {
        String[] whole = {"0", "-1", "-2", "-4", "-10", "16", "1"};
        for (String a : whole) {
            step(" | 0 " + a, 10, 0, " | 0");
            step(" | 0 " + a, 11, 0, " |");
            step(" | 0 " + a, 12, 0, " | 0 " + a + " " + a);
            step(" | 0 " + a, 13, 0, " | " + a + " 0 " + a);
            step(" | " + a + " 0", 13, 0, " | 0 " + a + " 0");
            step(" | 0 " + a, 14, 0, " | 0 " + a + " 0 " + a);
            step(" | 0 " + a, 15, 0, " | " + a + " 0");
        }
        for (int op = 10; op <= 15; op++) {
            step(" |", op, 0, "error 3");
        }
        for (int op : new int[] {11, 13, 14, 15}) {
            step(" | 0", op, 0, "error 3");
            step(" | 8 -3 0", op, 0, "error 4");
        }
        for (int op : new int[] {10, 12, 13, 15}) {
            step(" | 0 8 -3", op, 0, "error 4");
            step(" | 8 -3", op, 0, "error 4");
        }
        step(" | 0 8 -3", 11, 0, " | 0");
        step(" | 0 8 -3", 14, 0, " | 0 8 -3 8 -3");
        step(" | 8 -3 0", 10, 0, " | 8 -3");
        step(" | 8 -3 0", 12, 0, " | 8 -3 0 0");
        step(" | 8 -3 0 16", 14, 0, " | 8 -3 0 16 0 16");
        step(" | 8 -3 0 16", 13, 0, " | 8 -3 16 0 16");
        step(" | 0 16 24", 15, 0, " | 0 24 16");
    }

    private static void numbers() {
        step(" | 16 0 0", 16, 0, " | 16 0");
        step(" | 16 8 -3 8 -3", 17, 0, " | 16 8 -3");
        step(" | 16 0", 18, 0, " | 16 8 -3");
        step(" | 16 8 -3", 19, 0, " | 16 0");
        step(" | 16 8 -3 8 -3", 20, 0, " | 16 0");
        step(" |", 16, 0, "error 3");
        step(" | 0", 16, 0, "error 3");
        step(" | 16", 16, 0, "error 4");
        step(" | 16 0", 16, 0, "error 4");
        step(" | 0 16", 16, 0, "error 4");
        step(" | 8 -3 0", 16, 0, "error 4");
        for (int op : new int[] {17, 20}) {
            step(" |", op, 0, "error 3");
            step(" | 0", op, 0, "error 3");
            step(" | 16", op, 0, "error 3");
            step(" | 8 -3", op, 0, "error 3");
            step(" | 0 8 -3", op, 0, "error 3");
            step(" | 0 0", op, 0, "error 4");
            step(" | 0 0 8 -3", op, 0, "error 4");
            step(" | 8 -3 0", op, 0, "error 4");
            step(" | 8 -3 0 8 -3", op, 0, "error 4");
        }
        step(" |", 18, 0, "error 3");
        step(" | 8 -3", 18, 0, "error 4");
        step(" | -1", 18, 0, "error 4");
        step(" |", 19, 0, "error 3");
        step(" | 0", 19, 0, "error 3");
        step(" | 0 0", 19, 0, "error 4");
        step(" | 8 -3 0", 19, 0, "error 4");
    }

    /** The target is the index behind the instruction, which counts as another place. */
    private static void branches() {
        step("0 | 16", 22, 2, "0 | 16");
        step(" | 16 0", 23, 2, " | 16");
        step(" | 16 0 0", 24, 2, " | 16");
        for (String a : new String[] {"-1", "16", "4", "40", "-4", "-10"}) {
            step(" | 0 " + a, 25, 2, " | 0");
            step(" | 0 -1 " + a, 26, 2, " | 0");
            step(" | 0 " + a + " 16", 26, 2, " | 0");
            step(" | " + a, 23, 2, "error 4");
            step(" | " + a + " 0", 24, 2, "error 4");
        }
        for (int op : new int[] {23, 24, 25, 26}) {
            step(" |", op, 2, "error 3");
            step(" | 8 -3", op, 2, "error 4");
            step(" | -2", op, 2, "error 4");
        }
        step(" | 0", 24, 2, "error 3");
        step(" | -1", 26, 2, "error 3");
        step(" | 0", 25, 2, "error 4");
        step(" | 0 -1", 26, 2, "error 4");
        step(" | -1 0", 26, 2, "error 4");
    }

    private static void ends() {
        String[] values = {"0", "8 -3", "-1", "24", "32", "16", "25", "33", "-4", "-10", "-2"};
        // the methods 0 to 4 have the results VOID, INT, LONG, A, A[]; 5 is a constructor
        for (method = 0; method <= 5; method++) {
            for (String value : values) {
                boolean isReference = "-1 24 32 16 25 33".contains(value) && !value.equals("-2");
                step(" | " + value, 27, 0, !value.equals("0") ? "error 4" : method == 1 ? "|" : "error 9");
                String notLong = value.equals("8 -3") ? "" : "error 3";
                step(" | " + value, 28, 0, !notLong.isEmpty() ? notLong : method == 2 ? "|" : "error 9");
                boolean isRight = method == 3 && "-1 24 32".contains(value)
                        || method == 4 && "-1 25 33".contains(value);
                step(" | " + value, 29, 0, !isReference ? "error 4" : isRight ? "|" : "error 9");
                step(" | " + value, 30, 0, method == 0 || method == 5 ? "|" : "error 9");
                step(" | " + value, 31, 0, isReference ? "|" : "error 4");
            }
            step("! |", 30, 0, "error 9");
            step(" | 0 0", 28, 0, "error 4");
            for (int op : new int[] {27, 28, 29, 31}) {
                step(" |", op, 0, "error 3");
            }
        }
        method = 14;
        step(" | 0", 29, 0, "error 4");
        step(" | 48", 29, 0, "|");
        step(" | 1", 29, 0, "|");
        step("! | 40", 29, 0, "|");
        method = 0;
        step("! | 40", 31, 0, "|");
    }

    private static void fields() {
        step(" | 24", 32, 0, " | 0");
        step(" | 32", 32, 1, " | 8 -3");
        step(" | -1", 32, 2, " | 24");
        step(" | 0 48", 32, 3, " | 0 1");
        step(" | 1", 32, 4, " | 40");
        for (String a : new String[] {"16", "48", "25", "40", "0", "8 -3", "-2", "-4", "-10"}) {
            step(" | " + a, 32, 2, "error 4");
            step(" | " + a + " 0", 33, 0, a.equals("-4") ? " |" : "error 4");
        }
        step(" | 24", 32, 5, "error 4");
        step(" |", 32, 2, "error 3");
        step(" | 0 24 0", 33, 0, " | 0");
        step(" | 32 8 -3", 33, 1, " |");
        step(" | -1 32", 33, 2, " |");
        step(" | 24 -1", 33, 2, " |");
        step(" | 48 1", 33, 3, " |");
        step(" | 1 48", 33, 4, " |");
        step(" | 24 16", 33, 2, "error 4");
        step(" | 24 0", 33, 2, "error 4");
        step(" | 24 8 -3", 33, 0, "error 4");
        step(" | 24 -2", 33, 0, "error 4");
        step(" | 24 -1", 33, 0, "error 4");
        step(" | 24 0", 33, 1, "error 4");
        step(" | 24 8 -3 0", 33, 1, "error 4");
        step(" | 24 -4", 33, 2, "error 4");
        step(" | 24 -10", 33, 2, "error 4");
        step(" | 24 -2", 33, 2, "error 4");
        step(" | 8 -3 24", 33, 2, "error 4");
        step(" | 0", 33, 0, "error 3");
        step(" |", 33, 0, "error 3");
        step(" | 0", 33, 1, "error 3");
        step(" | 8 -3", 33, 1, "error 3");
    }

    /** THIS is an object for PUTFIELD of an own field; the method's owner is A, in method 5 B. */
    private static void fieldsOfThis() {
        method = 6;
        step("! | -4 0", 33, 0, "! |");
        step("! | -4 8 -3", 33, 1, "! |");
        step("! | -4", 32, 0, "error 4");
        step("! | -4 48", 33, 4, "error 4");
        step("! | -10 0", 33, 0, "error 4");
        step("! | -4 -4", 33, 2, "error 4");
        method = 5;
        step("! | -4 0", 33, 0, "error 4");
        step("! | -4 32", 33, 5, "! |");
        step("! | 32 0", 33, 0, "! |");
        method = 0;
    }

    /** The NEW is at index 1, so its value is -11. */
    private static void creation() {
        step("24 | 16", 34, 3, "24 | 16 -11");
        step("-11 -10 -11 | -10", 34, 3, "-2 -10 -2 | -10 -11");
        step(" | -11", 34, 3, "error 4");
        step(" | -11 0 0 0 0 0", 34, 3, "error 4");
        step("-11 | -10 -12", 34, 2, " | -10 -12 -11");
        new Run("the value in a local variable becomes TOP").due("declareMethod(2, 1, -1) = 0; begin(0, 1, 2) = 0")
                .code(30, 0, 34, 2, 22, 2).due("pushLocal(-11) = 1; pushLocal(-10) = 2; declareFrame(1, false) = 1;"
                + "pushLocal(-2) = 1; pushLocal(-10) = 2; pushStack(-11) = 1; declareFrame(2, false) = 2; check() = 0;"
                + "pushLocal(-11) = 1; pushLocal(-10) = 2; pushStack(-11) = 1; declareFrame(2, false) = 2; check() = 10;"
                + "errorPosition() = 2");
        plain("locals become TOP", 3, 34, 3, 9, 1, 22, 0).due("infer() = 0; localSlot(1, 1) = -2; visits() = 3;"
                + "localSlot(2, 1) = -10");
        plain("NEW in a loop", 3, 34, 3, 12, 0, 9, 1, 25, 5, 30, 0, 6, 1, 10, 0, 22, 0).due(
                "infer() = 0; localSlot(0, 1) = -2; localSlot(5, 1) = -10");
        plain("on the stack in a loop", 3, 34, 3, 22, 0).due("infer() = 8; errorPosition() = 1; visits() = 2");
    }

    private static void constructors() {
        plain("NEW, DUP, INVOKESPECIAL", 3, 34, 3, 12, 0, 9, 0, 12, 0, 35, 6, 30, 0).due("infer() = 0;"
                + "stackSlot(4, 0) = -10; stackSlot(4, 1) = -10; localSlot(4, 0) = -10; stackHeight(5) = 1;"
                + "stackSlot(5, 0) = 24; localSlot(5, 0) = 24; localSlot(5, 1) = -2; isMarked(5) = false");
        plain("two objects of one class", 3, 34, 3, 34, 3, 35, 6, 30, 0).due("infer() = 0; stackHeight(3) = 1;"
                + "stackSlot(3, 0) = -10");
        plain("arguments", 3, 34, 3, 12, 0, 1, 0, 2, 0, 3, 0, 35, 8, 30, 0).due("infer() = 6; errorPosition() = 3;"
                + "begin(0, 6, 1) = 0").code(34, 3, 12, 0, 1, 0, 2, 0, 3, 0, 35, 8, 30, 0)
                .due("infer() = 0; stackHeight(6) = 1; stackSlot(6, 0) = 24; stackHeight(5) = 6");
        plain("the class of the NEW", 3, 34, 4, 35, 6, 30, 0).due("infer() = 4; errorPosition() = 1");
        plain("the class of the NEW", 3, 34, 4, 35, 5, 30, 0).due("infer() = 0");
        plain("the class of the NEW", 3, 34, 3, 35, 5, 30, 0).due("infer() = 4; errorPosition() = 1");
        plain("the class of the NEW", 3, 34, 2, 35, 7, 30, 0).due("infer() = 0");
        plain("the object is initialized", 3, 34, 3, 12, 0, 35, 6, 35, 6, 30, 0).due("infer() = 4; errorPosition() = 3");
        plain("no object", 3, 35, 6, 30, 0).due("infer() = 3; errorPosition() = 0");
        // -10 is created by a GOTO here, -11 by the INVOKESPECIAL itself, -13 behind the code
        for (String a : new String[] {"24", "-1", "0", "-2", "-10", "-11", "-13", "-109", "8 -3"}) {
            step(" | " + a, 35, 7, "error 4");
        }
        step(" |", 35, 6, "error 3");
        step(" | 0 0 8 -3 16", 35, 8, "error 4");
        step(" | 0 0 0 0 24", 35, 8, "error 4");
        step(" | 0 8 -3 8 -3 24", 35, 8, "error 4");
        step(" | 8 -3 24", 35, 8, "error 3");
        step(" | 0 8 -3 24", 35, 8, "error 3");
        step(" | 24", 35, 8, "error 3");
    }

    /** In method 6 the owner is A, in method 5 it is B below A. */
    private static void thisConstructors() {
        method = 6;
        step("! -4 -4 | -4 -4", 35, 6, "24 24 | 24");
        step("! -4 | -4", 35, 7, "24 |");
        step("! -4 | -4", 35, 5, "error 4");
        step("! -4 | -4", 35, 13, "error 4");
        step("! -4 -10 | -4 0 8 -3 -1", 35, 8, "24 -10 |");
        step("-4 | -4", 35, 7, "24 |");
        method = 5;
        step("! -4 | -4", 35, 5, "32 |");
        step("! -4 | -4", 35, 6, "32 |");
        step("! -4 | -4", 35, 7, "error 4");
        new Run("another object does not remove the mark").due(BASES + "begin(6, 2, 1) = 1")
                .code(34, 3, 35, 6, 30, 0).due("infer() = 9; errorPosition() = 2");
        new Run("THIS is left in the locals").due(BASES + "begin(5, 2, 2) = 1")
                .code(6, 0, 12, 0, 9, 1, 35, 6, 30, 0).due("infer() = 0; localSlot(3, 0) = -4; localSlot(3, 1) = -4;"
                + "localSlot(4, 0) = 32; localSlot(4, 1) = 32; isMarked(3) = true; isMarked(4) = false");
        method = 7;
        step(" | -4", 35, 7, " |");
        step(" | -4", 35, 6, "error 4");
        method = 0;
    }

    private static void calls() {
        step(" | 16 24", 36, 9, " | 16");
        step(" | -1", 36, 9, " |");
        step(" | 32 8 -3 0", 36, 10, " | 8 -3");
        step(" | 1 48", 36, 11, " | 24");
        step(" | 16 25", 36, 11, " | 24");
        for (String a : new String[] {"16", "48", "25", "0", "8 -3", "-2", "-4", "-10"}) {
            step(" | " + a, 36, 9, "error 4");
        }
        step(" |", 36, 9, "error 3");
        step(" | 24 8 -3", 36, 10, "error 4");
        step(" | 24 0 0", 36, 10, "error 4");
        step(" | 24 0", 36, 10, "error 3");
        step(" | 0", 36, 10, "error 3");
        step(" | 0 0", 36, 10, "error 3");
        step(" | 8 -3 0", 36, 10, "error 3");
        step(" | 0 24", 36, 11, "error 4");
        step(" | 24 -4", 36, 11, "error 4");
        step(" | 24 -2", 36, 11, "error 4");
        step(" | 0 32 1", 37, 12, " | 0 1");
        step(" | -1 -1", 37, 12, " | 1");
        step(" | 1 32", 37, 12, "error 4");
        step(" | 48 1", 37, 12, "error 4");
        step(" | 24 9", 37, 12, "error 4");
        step(" | 1", 37, 12, "error 3");
        step(" | 0", 37, 2, " | 0 8 -3");
        step(" | 0", 37, 0, " | 0");
    }

    private static void arrays() {
        step(" | 16 0", 38, 0, " | 16 1");
        step(" | 0", 38, 8, " | 9");
        step(" | 0", 38, 3, " | 4");
        step(" | 0", 38, 40, " | 41");
        step(" | 0", 38, 27, " | 28");
        step(" | -1", 38, 0, "error 4");
        step(" |", 38, 0, "error 3");
        step(" | 16 1 0", 39, 0, " | 16 0");
        step(" | -1 0", 39, 0, " | 0");
        for (String a : new String[] {"9", "2", "16", "17", "0", "-2", "-4", "-10", "8 -3"}) {
            step(" | " + a + " 0", 39, 0, "error 4");
            step(" | " + a + " 0 0", 40, 0, "error 4");
        }
        step(" | 1 -1", 39, 0, "error 4");
        step(" | 0", 39, 0, "error 3");
        step(" |", 39, 0, "error 3");
        step(" | 16 1 0 0", 40, 0, " | 16");
        step(" | -1 0 0", 40, 0, " |");
        step(" | 1 0 16", 40, 0, "error 4");
        step(" | 1 16 0", 40, 0, "error 4");
        step(" | 0 0", 40, 0, "error 3");
        step(" | 16 25 0", 41, 0, " | 16 24");
        step(" | 2 0", 41, 0, " | 1");
        step(" | 44 0", 41, 0, " | 43");
        step(" | -1 0", 41, 0, " | -1");
        for (String a : new String[] {"1", "9", "16", "24", "40", "0", "-2", "-4", "-10", "8 -3"}) {
            step(" | " + a + " 0", 41, 0, "error 4");
            step(" | " + a + " 0 -1", 42, 0, "error 4");
        }
        step(" | 25 -1", 41, 0, "error 4");
        step(" | 0", 41, 0, "error 3");
        step(" | 16 25 0 48", 42, 0, " | 16");
        step(" | -1 0 -1", 42, 0, " |");
        step(" | 2 0 16", 42, 0, " |");
        for (String a : new String[] {"0", "-2", "-4", "-10", "8 -3"}) {
            step(" | 25 0 " + a, 42, 0, "error 4");
        }
        step(" | 25 -1 -1", 42, 0, "error 4");
        step(" | 0 -1", 42, 0, "error 3");
        for (String a : new String[] {"1", "9", "4", "25", "-1", "41"}) {
            step(" | 16 " + a, 43, 0, " | 16 0");
        }
        for (String a : new String[] {"16", "24", "40", "0", "-2", "-4", "-10", "8 -3"}) {
            step(" | " + a, 43, 0, "error 4");
        }
        step(" |", 43, 0, "error 3");
    }

    private static void casts() {
        for (String a : new String[] {"-1", "16", "24", "40", "1", "12"}) {
            step(" | 0 " + a, 44, 48, " | 0 48");
            step(" | " + a, 44, 9, " | 9");
            step(" | 0 " + a, 45, 40, " | 0 0");
        }
        for (int op : new int[] {44, 45}) {
            for (String a : new String[] {"0", "-2", "-4", "-10", "8 -3"}) {
                step(" | " + a, op, 24, "error 4");
            }
            step(" |", op, 24, "error 3");
        }
        plain("a cast is what the type says", 1, 3, 0, 44, 33, 44, 40, 45, 16, 10, 0, 30, 0)
                .due("infer() = 0; stackSlot(2, 0) = 33; stackSlot(3, 0) = 40; stackSlot(4, 0) = 0");
        plain("AALOAD of NULL is NULL", 1, 3, 0, 1, 0, 41, 0, 10, 0, 30, 0).due("infer() = 0; stackSlot(3, 0) = -1");
        plain("AALOAD of A[][]", 1, 3, 0, 44, 26, 1, 0, 41, 0, 10, 0, 30, 0).due("infer() = 0; stackSlot(4, 0) = 25");
    }

    /** Error 6 comes last, and only if the stack is too high in the end. */
    private static void fullStack() {
        String full = " | 16 16 16 16 16 0";
        for (int op : new int[] {1, 2, 3, 12, 13, 14, 34}) {
            step(full, op, 3, "error 6");
        }
        String almost = " | 16 16 16 16 0";
        for (int op : new int[] {2, 14}) {
            step(almost, op, 0, "error 6");
        }
        step(almost, 1, 0, " | 16 16 16 16 0 0");
        step(almost, 13, 0, " | 16 16 16 0 16 0");
        step(almost, 18, 0, " | 16 16 16 16 8 -3");
        step(full, 18, 0, "error 6");
        step(full, 15, 0, " | 16 16 16 16 0 16");
        step(full, 38, 0, " | 16 16 16 16 16 1");
        step(full, 0, 0, full);
        step("0" + full, 4, 0, "error 6");
        step("16" + full, 4, 0, "error 5");
        step("8 -3" + almost, 5, 0, "error 6");
        step("8 -3 | 16 16 16 0", 5, 0, "8 -3 | 16 16 16 0 8 -3");
        step("-1" + full, 6, 0, "error 6");
        step("0" + full, 21, 0, "0" + full);
        step(full, 37, 1, "error 6");
        step(almost, 37, 2, "error 6");
        step(almost, 37, 1, " | 16 16 16 16 0 0");
        step(" | 0 0 0 0 0 24", 32, 1, "error 6");
        step(" | 0 0 0 0 24", 32, 1, " | 0 0 0 0 8 -3");
        step(" | 0 0 0 24 0", 32, 1, "error 4");
        step(" | 16 16 16 16 16 16", 18, 0, "error 4");
    }
}
