/**
 * Single instructions. A step is an instruction between two frames, each written as
 * "locals | stack", with a mark as "!": it is checked between declared frames, and, where a code
 * can make the frame before it, inferred too.
 */
final class Steps {
    static final int HEIGHT = 6;
    static final int LOCALS = 4;

    /** A 3, B 4 below A, interface I 5, C 6. The methods are told where they are used. */
    static final String BASES = "declareClass(2, false) = 3; declareClass(3, false) = 4;"
            + "declareClass(2, true) = 5; declareClass(2, false) = 6;"
            + "declareField(3, 0) = 0; declareField(3, 8) = 1; declareField(3, 24) = 2;"
            + "declareField(6, 1) = 3; declareField(2, 40) = 4; declareField(4, 32) = 5;"
            + "declareMethod(3, 1, -1) = 0; declareMethod(3, 1, 0) = 1; declareMethod(3, 1, 8) = 2;"
            + "declareMethod(3, 1, 24) = 3; declareMethod(3, 1, 25) = 4; declareMethod(4, 2, -1) = 5;"
            + "declareMethod(3, 2, -1) = 6; declareMethod(2, 2, -1) = 7; parameter(0) = 1; parameter(8) = 3;"
            + "parameter(24) = 4; declareMethod(3, 2, -1) = 8; declareMethod(3, 0, -1) = 9; parameter(8) = 2;"
            + "parameter(0) = 3; declareMethod(3, 0, 8) = 10; parameter(40) = 1; declareMethod(5, 0, 24) = 11;"
            + "parameter(24) = 1; parameter(1) = 2; declareMethod(6, 1, 1) = 12; declareMethod(6, 2, -1) = 13;"
            + "declareMethod(3, 1, 40) = 14;";

    private Steps() {
    }

    /** Tests one instruction in the code of a method; "error n" as the frame behind it is an error. */
    static void step(String title, int method, String before, int op, int operand, String after) {
        String full = title + ", method " + method + ", instruction " + op + " " + operand + " at " + before;
        checkStep(full, method, before, op, operand, after);
        boolean isStatic = method <= 4 || method == 14;
        if (isStatic && op != 34 && !before.contains("!") && !before.matches(".*-(2|4|1\\d+)\\b.*")) {
            inferStep(full, method, before, op, operand, after);
        }
    }

    private static void checkStep(String title, int method, String before, int op, int operand, String after) {
        Run run = new Run(title).due(BASES);
        run.make("begin(" + method + ", " + HEIGHT + ", " + LOCALS + ")");
        run.code(22, 0, op, operand, 22, 2);
        declare(run, 0, "! |");
        declare(run, 1, before);
        if (after.startsWith("error ")) {
            declare(run, 2, "! |");
            run.due("check() = " + after.substring(6) + "; errorPosition() = 1; visits() = 2");
        } else {
            declare(run, 2, after);
            run.due("check() = 0; visits() = 3");
        }
    }

    /** The frame before the instruction is made by a straight code; behind it stands a GOTO to itself. */
    private static void inferStep(String title, int method, String before, int op, int operand, String after) {
        Run run = new Run(title + ", inferred").due(BASES);
        run.make("begin(" + method + ", " + HEIGHT + ", " + LOCALS + ")");
        String[] sides = before.split("\\|", -1);
        int index = supplyLocals(run, sides[0].trim());
        index = supplyAll(run, index, sides[1].trim());
        boolean isJump = op >= 22 && op <= 26;
        run.code(op, isJump ? index + 1 : operand, 22, index + 1);
        if (after.startsWith("error ")) {
            run.due("infer() = " + after.substring(6) + "; errorPosition() = " + index + "; visits() = " + (index + 1));
        } else if (op >= 27 && op <= 31) {
            run.due("infer() = 0; visits() = " + (index + 1) + "; hasFrame(" + (index + 1) + ") = false");
        } else {
            run.due("infer() = 0; visits() = " + (index + 2));
            dueFrame(run, index + 1, after);
        }
    }

    private static int supplyLocals(Run run, String slots) {
        int index = 0;
        int local = 0;
        for (String slot : slots.split(" ")) {
            if (!slot.isEmpty() && !slot.equals("-3")) {
                index = supply(run, index, slot);
                int store = slot.equals("0") ? 7 : slot.equals("8") ? 8 : 9;
                run.code(store, local);
                index++;
            }
            local++;
        }
        return index;
    }

    private static int supplyAll(Run run, int start, String slots) {
        int index = start;
        for (String slot : slots.split(" ")) {
            if (!slot.isEmpty() && !slot.equals("-3")) {
                index = supply(run, index, slot);
            }
        }
        return index;
    }

    /** Emits what pushes a value; returns the index behind it. */
    static int supply(Run run, int index, String slot) {
        if (slot.equals("0") || slot.equals("8") || slot.equals("-1")) {
            run.code(slot.equals("0") ? 1 : slot.equals("8") ? 2 : 3, 0);
            return index + 1;
        }
        run.code(3, 0, 44, Integer.parseInt(slot));
        return index + 2;
    }

    private static void dueFrame(Run run, int index, String frame) {
        String[] sides = frame.split("\\|", -1);
        String[] locals = sides[0].isBlank() ? new String[0] : sides[0].trim().split(" ");
        for (int local = 0; local < LOCALS; local++) {
            run.due("localSlot(" + index + ", " + local + ") = " + (local < locals.length ? locals[local] : "-2"));
        }
        String[] stack = sides[1].isBlank() ? new String[0] : sides[1].trim().split(" ");
        for (int slot = 0; slot < stack.length; slot++) {
            run.due("stackSlot(" + index + ", " + slot + ") = " + stack[slot]);
        }
        run.due("stackHeight(" + index + ") = " + stack.length + "; isMarked(" + index + ") = false");
    }

    static void declare(Run run, int index, String frame) {
        boolean isMarked = frame.startsWith("!");
        String[] sides = frame.replace("!", "").split("\\|", -1);
        push(run, "pushLocal", sides[0].trim());
        push(run, "pushStack", sides[1].trim());
        run.make("declareFrame(" + index + ", " + isMarked + ")");
    }

    private static void push(Run run, String call, String slots) {
        if (!slots.isEmpty()) {
            for (String slot : slots.split(" ")) {
                run.make(call + "(" + slot + ")");
            }
        }
    }
}
