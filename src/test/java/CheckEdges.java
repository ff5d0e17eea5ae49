/** Edges of the checking in section 4 and of promise 17. */
final class CheckEdges {
    private static final String BASES = ProcessEdges.BASES;

    /** Codes that end with each kind of error that check finds; the position is 1, but for 7 and 11. */
    private static final String[][] ERRORS = {
        {"begin(0, 1, 1); emit(30, 0); emit(44, 0)", "1", "1", "0"},
        {"begin(0, 1, 1); emit(30, 0); addHandler(0, 1, 0, 2); addHandler(1, 1, 0, 2)", "2", "1", "0"},
        {"begin(0, 1, 1); emit(0, 0); emit(10, 0)", "3", "1", "2"},
        {"begin(0, 1, 1); emit(3, 0); emit(7, 0)", "4", "1", "2"},
        {"begin(0, 1, 1); emit(0, 0); emit(6, 0)", "5", "1", "2"},
        {"begin(0, 1, 1); emit(1, 0); emit(1, 0)", "6", "1", "2"},
        {"begin(0, 1, 1)", "7", "0", "0"},
        {"begin(0, 1, 1); emit(0, 0); emit(0, 0)", "7", "1", "2"},
        {"begin(0, 1, 1); emit(1, 0); emit(27, 0)", "9", "1", "2"},
        {"begin(0, 1, 1); emit(1, 0); emit(22, 0)", "10", "1", "2"},
        {"begin(0, 1, 1); emit(30, 0); emit(30, 0)", "10", "1", "1"},
        {"begin(0, 1, 1); emit(0, 0); emit(30, 0); declareFrame(0, false); pushLocal(0); declareFrame(1, false)", "10", "1", "1"},
        {"begin(2, 1, 0); emit(30, 0); emit(30, 0)", "11", "0", "0"}};

    private CheckEdges() {
    }

    static void run() {
        refusedAndKinds();
        examination();
        ascendingOrder();
        firstInstruction();
        declaredOnTheWay();
        noPresentFrame();
        otherPlaces();
        handlerTargets();
        behindEnds();
        heights();
        slots();
        everySlot();
        marks();
        inferredFramesStay();
    }

    private static Run edge(String quote) {
        return Edges.edge("17", quote).due(BASES);
    }

    private static void refusedAndKinds() {
        Edges.edge("17", "Throws IllegalStateException if no code was started").due("check() = ISE;"
                + "declareMethod(2, 1, -1) = 0; check() = ISE; begin(1, 0, 0) = IOOBE; check() = ISE; begin(0, 0, -1) = IAE;"
                + "check() = ISE; errorPosition() = -1; visits() = 0; begin(0, 0, 0) = 0; check() = 7");
        String quote = "Returns the kind of the error, 1 to 11; 0 if there is none.";
        for (String[] row : ERRORS) {
            String due = "check() = " + row[1] + "; errorPosition() = " + row[2] + "; visits() = " + row[3] + ";";
            edge(quote).make(row[0]).due(due + due);
        }
        edge(quote).due("begin(0, 0, 0) = 0").code(30, 0).due("check() = 0; errorPosition() = -1; visits() = 1");
    }

    private static void examination() {
        edge("It also begins with the examination.").due("begin(2, 1, 0) = 1; addHandler(0, 0, 0, 2) = 0; check() = 7;"
                + "errorPosition() = 0; emit(10, 0) = 0; emit(22, 2) = 1; check() = 1; errorPosition() = 1; emit(30, 0) = 2;"
                + "check() = 2; errorPosition() = 0; visits() = 0; begin(2, 1, 0) = 1; emit(10, 0) = 0; check() = 11;"
                + "errorPosition() = 0; visits() = 0; begin(2, 1, 1) = 1; emit(10, 0) = 0; check() = 3; visits() = 1");
    }

    private static void ascendingOrder() {
        String quote = "Then the instructions are processed in ascending order, each one once.";
        edge(quote).due("begin(0, 1, 1) = 0").code(22, 2, 10, 0, 10, 0).due("declareFrame(1, false) = 1;"
                + "declareFrame(2, false) = 2; check() = 3; errorPosition() = 1; visits() = 2; begin(0, 1, 1) = 0")
                .code(1, 0, 7, 0, 3, 0, 9, 0, 22, 2).due("declareFrame(2, false) = 1; check() = 0; visits() = 5; infer() = 0;"
                + "visits() = 7; check() = 0; visits() = 5");
        Run full = edge(quote).due("begin(0, 1, 1) = 0");
        for (int index = 0; index < 100; index++) {
            full.code(22, 99 - index).make("declareFrame(" + index + ", false)");
        }
        full.due("check() = 0; visits() = 100; infer() = 0; visits() = 2");
        Run down = edge(quote).due("begin(0, 1, 1) = 0").make("emit(22, 0);".repeat(100));
        for (int index = 0; index < 100; index++) {
            down.make("declareFrame(" + index + ", false)");
        }
        down.due("check() = 0; visits() = 100; infer() = 0; visits() = 1");
    }

    private static void firstInstruction() {
        edge("At the first instruction, the present frame is the first frame.").due("begin(4, 2, 6) = 5")
                .code(6, 0, 9, 5, 4, 4, 7, 4, 5, 1, 8, 1, 30, 0).due("check() = 0; begin(4, 2, 6) = 5").code(6, 5)
                .due("check() = 5; errorPosition() = 0; begin(2, 1, 1) = 1").code(30, 0).due("check() = 9; begin(0, 1, 1) = 0")
                .code(10, 0).due("check() = 3; declareFrame(0, false) = 1; check() = 3; pushStack(0) = 1;"
                + "declareFrame(0, false) = 1; check() = 10; errorPosition() = 0; visits() = 0; declareFrame(0, true) = 1;"
                + "check() = 3; pushLocal(0) = 1; declareFrame(0, false) = 1; check() = 10; visits() = 0");
    }

    private static void declaredOnTheWay() {
        String quote = "Before an instruction at index i is processed: if a frame is declared at i, and there is a present frame,"
                + " the present frame must be assignable to it (otherwise error 10, position i); then the declared frame is the"
                + " present one.";
        // the declared frame is weaker than the present one, and it is what the rest sees
        edge(quote).due("begin(0, 1, 1) = 0").code(1, 0, 7, 0, 0, 0, 4, 0, 10, 0, 30, 0).due("check() = 0; visits() = 6;"
                + "declareFrame(2, false) = 1; check() = 5; errorPosition() = 3; visits() = 4; pushLocal(0) = 1;"
                + "declareFrame(2, false) = 1; check() = 0; pushLocal(-1) = 1; declareFrame(2, false) = 1; check() = 10;"
                + "errorPosition() = 2; visits() = 2");
        edge(quote).due("begin(0, 1, 1) = 0").code(3, 0, 44, 32, 32, 0, 10, 0, 30, 0).due("check() = 0; pushStack(24) = 1;"
                + "declareFrame(2, false) = 1; check() = 4; errorPosition() = 2; pushStack(32) = 1; declareFrame(2, false) = 1;"
                + "check() = 0; pushStack(40) = 1; declareFrame(2, false) = 1; check() = 10; errorPosition() = 2;"
                + "declareFrame(2, false) = 1; check() = 10; pushStack(32) = 1; declareFrame(2, true) = 1; check() = 9;"
                + "errorPosition() = 4");
        // at the last index too, and at each one
        edge(quote).due("begin(0, 1, 1) = 0").code(0, 0, 0, 0, 30, 0).due("declareFrame(0, false) = 1; declareFrame(1, false) = 2;"
                + "declareFrame(2, false) = 3; check() = 0; pushLocal(0) = 1; declareFrame(2, false) = 3; check() = 10;"
                + "errorPosition() = 2; visits() = 2; declareFrame(1, true) = 3; check() = 10; errorPosition() = 2;"
                + "declareFrame(2, false) = 3; check() = 10; errorPosition() = 2; declareFrame(2, true) = 3; check() = 9");
        // the handler sees the declared frame
        edge(quote).due("begin(0, 1, 1) = 0").code(1, 0, 7, 0, 30, 0, 31, 0).due("addHandler(2, 3, 3, 2) = 0; pushLocal(0) = 1;"
                + "pushStack(16) = 1; declareFrame(3, false) = 1; check() = 0; declareFrame(2, false) = 2; check() = 10;"
                + "errorPosition() = 2; visits() = 3");
    }

    private static void noPresentFrame() {
        String quote = "If none is declared at i and there is no present frame, this is error 10, position i.";
        edge(quote).due("begin(0, 1, 1) = 0").code(30, 0, 0, 0, 30, 0).due("check() = 10; errorPosition() = 1; visits() = 1;"
                + "declareFrame(0, false) = 1; check() = 10; errorPosition() = 1; declareFrame(2, false) = 2; check() = 10;"
                + "errorPosition() = 1; visits() = 1; declareFrame(1, false) = 3; check() = 0; visits() = 3;"
                + "begin(0, 1, 1) = 0").code(30, 0, 4, 0).due("declareFrame(1, false) = 1; check() = 5; errorPosition() = 1");
        // where there is no present frame, any declared frame will do
        edge(quote).due("begin(0, 12, 12) = 0").code(30, 0, 30, 0).make("pushStack(-4);".repeat(12))
                .make("pushLocal(-109);".repeat(12)).due("declareFrame(1, false) = 1; check() = 0; declareFrame(1, true) = 1;"
                + "check() = 9; errorPosition() = 1");
        Run last = edge(quote).due("begin(0, 1, 1) = 0").make("emit(0, 0);".repeat(98)).code(30, 0, 30, 0);
        last.due("check() = 10; errorPosition() = 99; visits() = 99; declareFrame(99, false) = 1; check() = 0; visits() = 100");
    }

    // ---- flows to other places

    private static final String FLOWS = "A frame flows from i to the next instruction by being the present frame there, and to any"
            + " other place (a target of a jump, also if this is the next instruction, or of a handler) if a frame is declared there"
            + " to which it is assignable; otherwise this is error 10, position i.";

    private static void otherPlaces() {
        for (int op = 22; op <= 26; op++) {
            int value = op <= 24 ? 1 : 3;
            int height = op == 22 ? 2 : op == 24 || op == 26 ? 0 : 1;
            String stack = "pushStack(-2);".repeat(height);
            // the target is the next instruction, one behind it, the jump itself, and one in front of it
            for (int target : new int[] {3, 4, 2, 1, 0}) {
                Run run = edge(FLOWS).due("begin(0, 2, 1) = 0").code(value, 0, value, 0, op, target, 30, 0, 30, 0);
                run.due("declareFrame(" + (7 - target) % 5 + ", false) = 1").make("begin(0, 2, 1)");
                run.code(value, 0, value, 0, op, target, 30, 0, 30, 0).due("check() = 10; errorPosition() = 2; visits() = 3");
                if (target >= 3) {
                    run.make(stack).due("declareFrame(3, false) = 1").make(stack).due("declareFrame(4, false) = 2; check() = 0;"
                            + "visits() = 5; pushLocal(0) = 1").make(stack).due("declareFrame(" + target + ", false) = 2;"
                            + "check() = 10; errorPosition() = 2; visits() = 3");
                } else {
                    run.due("infer() = " + (height == target ? 0 : 8));
                }
            }
        }
        // backward to the first frame
        edge(FLOWS).due("begin(4, 1, 5) = 5").code(3, 0, 9, 0, 22, 0).due("check() = 10; errorPosition() = 2; pushLocal(40) = 1;"
                + "pushLocal(8) = 2; pushLocal(-3) = 3; pushLocal(32) = 4; pushLocal(0) = 5; declareFrame(0, false) = 1; check() = 0;"
                + "pushLocal(40) = 1; declareFrame(0, false) = 1; check() = 0; begin(4, 1, 5) = 5")
                .code(3, 0, 44, 24, 9, 0, 22, 0).due("pushLocal(40) = 1; declareFrame(0, false) = 1; check() = 10;"
                + "errorPosition() = 3; visits() = 4; pushLocal(16) = 1; declareFrame(0, false) = 1; check() = 0");
        // a frame declared at the next instruction is no matter of the jump, but of the next instruction
        edge(FLOWS).due("begin(0, 1, 1) = 0").code(1, 0, 23, 3, 0, 0, 30, 0).due("pushLocal(0) = 1; declareFrame(2, false) = 1;"
                + "check() = 10; errorPosition() = 1; visits() = 2; declareFrame(3, false) = 2; check() = 10;"
                + "errorPosition() = 2; visits() = 2; declareFrame(2, false) = 2; check() = 0");
    }

    private static void handlerTargets() {
        edge(FLOWS).due("begin(0, 1, 1) = 0").code(0, 0, 30, 0, 31, 0).due("addHandler(0, 2, 2, 4) = 0; check() = 10;"
                + "errorPosition() = 0; visits() = 1; declareFrame(2, false) = 1; check() = 10; errorPosition() = 0;"
                + "pushStack(40) = 1; declareFrame(2, false) = 1; check() = 10; pushStack(24) = 1; declareFrame(2, false) = 1;"
                + "check() = 0; pushStack(48) = 1; declareFrame(2, false) = 1; check() = 0; pushStack(32) = 1;"
                + "pushLocal(0) = 1; declareFrame(2, false) = 1; check() = 10; errorPosition() = 0; pushStack(-2) = 1;"
                + "declareFrame(2, true) = 1; check() = 4; errorPosition() = 2");
        // the next instruction as the target of a handler wants a declared frame too
        edge(FLOWS).due("begin(0, 1, 1) = 0").code(3, 0, 10, 0, 30, 0).due("addHandler(0, 1, 1, 2) = 0; check() = 10;"
                + "errorPosition() = 0; pushStack(16) = 1; declareFrame(1, false) = 1; check() = 0; pushStack(-1) = 1;"
                + "declareFrame(1, false) = 1; check() = 10; errorPosition() = 0");
    }

    private static void behindEnds() {
        String quote = "Behind an instruction that does not have the next instruction as a successor, there is no present frame.";
        int[][] ends = {{0, 0, 22, 1}, {1, 1, 27, 0}, {2, 2, 28, 0}, {3, 3, 29, 0}, {0, 0, 30, 0}, {0, 3, 31, 0}};
        for (int[] row : ends) {
            Run run = Edges.edge("17", quote).due("declareMethod(2, 1, -1) = 0; declareMethod(2, 1, 0) = 1;"
                    + "declareMethod(2, 1, 8) = 2; declareMethod(2, 1, 16) = 3; begin(" + row[0] + ", 2, 1) = 0");
            run.code(row[1], 0, row[2], row[3], 31, 0).make("pushStack(" + (row[2] == 22 ? -2 : 16) + ")");
            if (row[2] == 22) {
                run.due("check() = 10; errorPosition() = 1; visits() = 2; declareFrame(1, false) = 1; check() = 10;"
                        + "errorPosition() = 1; visits() = 1; declareFrame(1, false) = 1; check() = 10; errorPosition() = 2;"
                        + "visits() = 2; pushStack(16) = 1; declareFrame(2, true) = 2; check() = 0");
            } else {
                run.due("check() = 10; errorPosition() = 2; visits() = 2; declareFrame(2, true) = 1; check() = 0; visits() = 3");
            }
        }
        // a conditional jump has it
        for (int op = 23; op <= 26; op++) {
            int value = op <= 24 ? 1 : 3;
            Run run = edge(quote).due("begin(0, 2, 1) = 0").code(value, 0, value, 0, op, 4, 30, 0, 30, 0);
            run.make("pushStack(-2);".repeat(op == 24 || op == 26 ? 0 : 1)).due("declareFrame(4, false) = 1; check() = 0;"
                    + "visits() = 5; declareFrame(3, true) = 2; check() = " + (op == 24 || op == 26 ? 9 : 10)
                    + "; errorPosition() = 3");
        }
    }

    // ---- assignability of frames

    private static final String FITS = "A frame F is assignable to a frame G if the stacks have the same height, each slot of F is"
            + " assignable to that of G, and G has the mark if F has it.";

    /** Whether a frame declared at 1 is assignable to one declared at 2, to which a GOTO goes. */
    private static void fits(String from, String to, boolean isRight) {
        Run run = edge(FITS).due("begin(0, 12, 12) = 0").code(30, 0, 22, 2, 22, 2);
        Steps.declare(run, 1, from);
        Steps.declare(run, 2, to);
        run.due(isRight ? "check() = 0; visits() = 3" : "check() = 10; errorPosition() = 1; visits() = 2");
    }

    private static void heights() {
        fits(" |", " |", true);
        fits(" |", " | -2", false);
        fits(" | -2", " |", false);
        fits(" | 0", " | 0 0", false);
        fits(" | 0 0", " | 0", false);
        String eleven = "0 ".repeat(10) + "0";
        fits(" | " + eleven, " | " + eleven, true);
        fits(" | " + eleven, " | " + eleven + " -2", false);
        fits(" | " + eleven + " 0", " | " + eleven, false);
        fits(" | " + eleven + " 0", " | " + eleven + " 0", true);
        fits("0 | 16", "0 | 16", true);
        fits("0 16 |", "0 | 16", false);
    }

    private static void slots() {
        String[][] right = {{"0", "0"}, {"0", "-2"}, {"8 -3", "8 -3"}, {"8 -3", "-2 -2"}, {"-1", "-1"}, {"-1", "24"}, {"-1", "1"},
            {"-1", "-2"}, {"-2", "-2"}, {"-4", "-4"}, {"-4", "-2"}, {"-10", "-10"}, {"-109", "-109"}, {"-10", "-2"}, {"32", "24"},
            {"32", "16"}, {"32", "48"}, {"33", "25"}, {"1", "16"}, {"1", "48"}, {"25", "17"}, {"24", "-2"}, {"8 -3 0", "-2 -2 0"}};
        String[][] wrong = {{"-2", "0"}, {"-2", "16"}, {"-2", "-1"}, {"-2 -2", "8 -3"}, {"0", "16"}, {"0", "-1"}, {"0 0", "8 -3"},
            {"8 -3", "0 0"}, {"8 -3", "16 16"}, {"-1", "0"}, {"-1 -1", "8 -3"}, {"24", "-1"}, {"24", "32"}, {"48", "24"},
            {"-4", "16"}, {"16", "-4"}, {"-1", "-4"}, {"-10", "-11"}, {"-10", "16"}, {"-1", "-10"}, {"25", "33"}, {"24", "25"},
            {"16 0", "16 16"}, {"0 16", "16 16"}};
        for (String[] pair : right) {
            fits(pair[0] + " |", pair[1] + " |", true);
            fits(" | " + pair[0], " | " + pair[1], true);
        }
        for (String[] pair : wrong) {
            fits(pair[0] + " |", pair[1] + " |", false);
            fits(" | " + pair[0], " | " + pair[1], false);
        }
    }

    /** Twelve slots, of which one is wrong: none is left out. */
    private static void everySlot() {
        for (int slot = 0; slot < 12; slot++) {
            String from = "0 ".repeat(slot) + "-1" + " 0".repeat(11 - slot);
            String to = "0 ".repeat(slot) + "24" + " 0".repeat(11 - slot);
            fits(from + " |", to + " |", true);
            fits(to + " |", from + " |", false);
            fits(" | " + from, " | " + to, true);
            fits(" | " + to, " | " + from, false);
        }
    }

    private static void marks() {
        fits("! |", "! |", true);
        fits(" |", "! |", true);
        fits("! |", " |", false);
        fits("! 0 | 16", "! 0 | 16", true);
        fits("! 0 | 16", "0 | 16", false);
        // the same for the next instruction and for a handler
        edge(FITS).due("begin(2, 1, 1) = 1").code(0, 0, 22, 1).due("pushLocal(-4) = 1; declareFrame(1, true) = 1; check() = 0;"
                + "pushLocal(-4) = 1; declareFrame(1, false) = 1; check() = 10; errorPosition() = 1; visits() = 1;"
                + "begin(2, 1, 1) = 1").code(22, 0, 31, 0).due("addHandler(0, 1, 1, 2) = 0; pushLocal(-4) = 1;"
                + "declareFrame(0, true) = 1; pushStack(16) = 1; declareFrame(1, true) = 2; check() = 0; pushStack(16) = 1;"
                + "declareFrame(1, false) = 2; check() = 10; errorPosition() = 0; visits() = 1; pushLocal(-4) = 1;"
                + "declareFrame(0, false) = 2; check() = 10; errorPosition() = 0; visits() = 0");
    }

    private static void inferredFramesStay() {
        edge("Inferred frames are not changed.").due("begin(0, 1, 1) = 0").code(1, 0, 7, 0, 22, 2).due("infer() = 0; check() = 10;"
                + "hasFrame(2) = true; localSlot(2, 0) = 0; stackHeight(1) = 1; adoptFrames() = 1; check() = 0; hasFrame(2) = true;"
                + "pushLocal(0) = 1; pushStack(0) = 1; declareFrame(2, false) = 1; check() = 10; localSlot(2, 0) = 0;"
                + "stackHeight(2) = 0; localSlot(0, 0) = -2; declareFrame(2, false) = 1; check() = 0; localSlot(2, 0) = 0");
        edge("Inferred frames are not changed.").due("begin(0, 1, 1) = 0").code(30, 0).due("check() = 0; hasFrame(0) = false;"
                + "adoptFrames() = ISE; declareFrame(0, false) = 1; check() = 0; hasFrame(0) = false; stackHeight(0) = ISE");
        edge("Checks the code against the declared frames (section 4).").due("begin(0, 1, 2) = 0").code(1, 0, 7, 0, 1, 0, 23, 6, 21, 0,
                22, 2, 30, 0).due("check() = 10; errorPosition() = 3; pushLocal(0) = 1; declareFrame(2, false) = 1; check() = 10;"
                + "errorPosition() = 3; declareFrame(6, false) = 2; check() = 0; errorPosition() = -1; visits() = 7;"
                + "declareFrame(2, false) = 2; check() = 5; errorPosition() = 4; visits() = 5");
    }
}
