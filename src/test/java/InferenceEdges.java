/** Edges of the inference in section 4 and of the promises 16, 18 and 19. */
final class InferenceEdges {
    private static final String BASES = ProcessEdges.BASES;

    /** Codes that end with each kind of error that infer finds; the position is 1, but for 7 and 11. */
    private static final String[][] ERRORS = {
        {"begin(0, 1, 1); emit(30, 0); emit(44, 0)", "1", "1"},
        {"begin(0, 1, 1); emit(30, 0); emit(31, 0); addHandler(0, 1, 1, 2); addHandler(1, 1, 0, 2)", "2", "1"},
        {"begin(0, 1, 1); emit(0, 0); emit(10, 0)", "3", "1"},
        {"begin(0, 1, 1); emit(3, 0); emit(7, 0)", "4", "1"},
        {"begin(0, 1, 1); emit(0, 0); emit(6, 0)", "5", "1"},
        {"begin(0, 1, 1); emit(1, 0); emit(1, 0)", "6", "1"},
        {"begin(0, 1, 1)", "7", "0"},
        {"begin(0, 1, 1); emit(30, 0); emit(0, 0); begin(0, 1, 1); emit(0, 0); emit(0, 0)", "7", "1"},
        {"begin(0, 1, 1); emit(1, 0); emit(22, 0)", "8", "1"},
        {"begin(0, 1, 1); emit(1, 0); emit(27, 0)", "9", "1"},
        {"begin(2, 1, 0); emit(30, 0); emit(30, 0)", "11", "0"}};

    /** Where both ways of a diamond meet. */
    private static int end = 0;

    private InferenceEdges() {
    }

    static void run() {
        pendingSet();
        smallestFirst();
        newFrames();
        differentHeights();
        slotsWithoutJoin();
        joinedStacks();
        joinedLocals();
        joinedMarks();
        pendingAgain();
        firstErrorEnds();
        inferredFrames();
        errors();
        positions();
        visits();
    }

    private static Run edge(String promises, String quote) {
        return Edges.edge(promises, quote).due(BASES);
    }

    /** ICONST, IFEQ second, first, GOTO end, second, end: the rest. Four stack slots, five local variables. */
    private static Run diamond(Run run, int method, int[] first, int[] second, int... rest) {
        int secondAt = 3 + first.length / 2;
        end = secondAt + second.length / 2;
        return run.make("begin(" + method + ", 4, 5)").code(1, 0, 23, secondAt).code(first).code(22, end).code(second).code(rest);
    }

    /** What pushes a value: INT, LONG, NULL, or a cast to a type. */
    private static int[] push(int value) {
        return value == 0 ? new int[] {1, 0} : value == 8 ? new int[] {2, 0} : value == -1 ? new int[] {3, 0}
                : new int[] {3, 0, 44, value};
    }

    // ---- the set of pending indices

    private static void pendingSet() {
        String quote = "Inference works with a set of pending indices.";
        Run run = edge("16, 19", quote);
        diamond(run, 0, new int[] {0, 0}, new int[] {0, 0}, 0, 0, 30, 0).due("infer() = 0; visits() = " + (end + 2));
        diamond(run, 0, new int[] {1, 0, 7, 0}, new int[] {3, 0, 9, 0}, 0, 0, 30, 0).due("infer() = 0; visits() = " + (end + 2)
                + "; localSlot(" + end + ", 0) = -2");
        run.due("begin(0, 1, 1) = 0").code(0, 0, 0, 0, 0, 0, 30, 0, 31, 0).due("addHandler(0, 4, 4, 3) = 0;"
                + "addHandler(0, 4, 4, 2) = 1; infer() = 0; visits() = 5; stackSlot(4, 0) = 16");
        // what is pending at an error is not pending in the next inference
        run.due("begin(0, 1, 1) = 0").code(1, 0, 23, 3, 10, 0, 30, 0).due("infer() = 3; errorPosition() = 2; visits() = 3;"
                + "infer() = 3; visits() = 3; begin(0, 1, 1) = 0").code(30, 0, 30, 0, 30, 0, 30, 0).due("infer() = 0;"
                + "visits() = 1; hasFrame(3) = false");
        Run first = edge("16, 19", "The first frame is set at index 0, which is pending.");
        first.due("begin(4, 1, 5) = 5").code(22, 0).due("infer() = 0; visits() = 1; localSlot(0, 0) = 40; infer() = 0;"
                + "visits() = 1; begin(4, 1, 5) = 5").code(3, 0, 9, 0, 22, 0).due("infer() = 0; visits() = 3;"
                + "localSlot(0, 0) = 40; localSlot(2, 0) = -1; begin(4, 1, 5) = 5").code(3, 0, 44, 32, 9, 0, 22, 0)
                .due("infer() = 0; visits() = 7; localSlot(0, 0) = 24; localSlot(0, 1) = 8; localSlot(0, 3) = 32");
    }

    private static void smallestFirst() {
        String quote = "As long as there is a pending index, the smallest one is removed and its instruction is processed with its"
                + " frame.";
        Run run = edge("16, 19", quote);
        // 1 to 3 are processed before 8 to 10 make INT to TOP there
        run.due("begin(0, 1, 1) = 0").code(22, 4, 0, 0, 0, 0, 30, 0, 1, 0, 7, 0, 1, 0, 23, 1, 3, 0, 9, 0, 22, 1)
                .due("infer() = 0; visits() = 14; localSlot(1, 0) = -2; begin(0, 1, 1) = 0");
        // the target 8 waits until 2 to 7, the smaller ones, have made its frame
        run.code(1, 0, 23, 8, 1, 0, 7, 0, 3, 0, 9, 0, 0, 0, 22, 8, 30, 0).due("infer() = 0; visits() = 9;"
                + "localSlot(8, 0) = -2; begin(0, 1, 1) = 0");
        // of two errors the one at the smaller index is found
        run.code(1, 0, 23, 3, 10, 0, 10, 0).due("infer() = 3; errorPosition() = 2; visits() = 3; begin(0, 1, 1) = 0")
                .code(22, 2, 10, 0, 1, 0, 23, 1, 10, 0).due("infer() = 3; errorPosition() = 1; visits() = 4");
        // the instruction is processed with the frame that it had when it was removed
        edge("16, 19", quote).due("begin(0, 2, 1) = 0").code(3, 0, 44, 32, 32, 0, 30, 0).due("addHandler(2, 3, 2, 5) = 0;"
                + "infer() = 4; errorPosition() = 2; visits() = 4");
    }

    private static void newFrames() {
        String quote = "A frame flows to an index as follows: if this index has no frame, it gets this frame and becomes pending.";
        edge("16, 20", quote).due("begin(0, 3, 3) = 0").code(1, 0, 7, 0, 2, 0, 22, 5, 0, 0, 22, 7, 0, 0, 11, 0, 30, 0)
                .due("infer() = 0; visits() = 7; hasFrame(4) = false; hasFrame(6) = false; stackHeight(5) = 2;"
                + "stackSlot(5, 0) = 8; stackSlot(5, 1) = -3; localSlot(5, 0) = 0; localSlot(5, 1) = -2; isMarked(5) = false;"
                + "stackHeight(8) = 0; begin(2, 1, 1) = 1").code(6, 0, 22, 2, 22, 2).due("infer() = 0; isMarked(2) = true;"
                + "stackSlot(2, 0) = -4");
        Run full = edge("16, 20", quote).due("begin(0, 1, 1) = 0");
        for (int index = 0; index < 99; index++) {
            full.code(22, index + 1);
        }
        full.code(30, 0).due("infer() = 0; visits() = 100; hasFrame(99) = true");
    }

    // ---- frames that meet

    private static final String MEET = "Otherwise: if the heights of the stacks are different, or the join of two stack slots that"
            + " are not the same is TOP, this is error 8; otherwise the index gets the frame whose slots are the joins, with the"
            + " mark if one of both has it; if this differs from the frame that it had, it becomes pending.";

    private static void dueError8(Run run) {
        run.due("infer() = 8; errorPosition() = " + (end - 1) + "; visits() = " + end + "; hasFrame(0) = false;"
                + "hasFrame(" + end + ") = false; adoptFrames() = ISE");
    }

    private static void differentHeights() {
        Run run = edge("16, 18", MEET);
        int[] none = {0, 0};
        int[] one = {1, 0};
        int[] two = {2, 0};
        int[] four = {2, 0, 2, 0};
        int[] three = {2, 0, 1, 0};
        int[][][] pairs = {{none, one}, {one, none}, {two, none}, {none, four}, {one, two}, {two, one}, {four, three},
            {three, four}};
        for (int[][] pair : pairs) {
            dueError8(diamond(run, 0, pair[0], pair[1], 30, 0));
        }
        for (int[] same : new int[][] {none, one, two, three, four}) {
            diamond(run, 0, same, same, 30, 0).due("infer() = 0; errorPosition() = -1");
        }
        run.due("begin(0, 12, 0) = 0").make("emit(1, 0);".repeat(12)).code(22, 11).due("infer() = 8; errorPosition() = 12;"
                + "begin(0, 12, 0) = 0").make("emit(1, 0);".repeat(12)).code(22, 12).due("infer() = 0; stackHeight(12) = 12");
    }

    private static void slotsWithoutJoin() {
        int[][] pairs = {{0, -1}, {-1, 0}, {0, 24}, {24, 0}, {0, 1}, {16, 0}};
        for (int[] pair : pairs) {
            dueError8(diamond(edge("16, 18", MEET), 0, push(pair[0]), push(pair[1]), 30, 0));
        }
        int[][][] twos = {{{2, 0}, {1, 0, 1, 0}}, {{2, 0}, {3, 0, 3, 0}}, {{1, 0, 1, 0}, {1, 0, 3, 0}}, {{3, 0, 3, 0}, {3, 0, 1, 0}}};
        for (int[][] pair : twos) {
            dueError8(diamond(edge("16, 18", MEET), 0, pair[0], pair[1], 30, 0));
            dueError8(diamond(edge("16, 18", MEET), 0, pair[1], pair[0], 30, 0));
        }
        // below the top, and shifted by one slot
        dueError8(diamond(edge("16, 18", MEET), 0, new int[] {1, 0, 1, 0}, new int[] {3, 0, 1, 0}, 30, 0));
        dueError8(diamond(edge("16, 18", MEET), 0, new int[] {1, 0, 2, 0}, new int[] {2, 0, 1, 0}, 30, 0));
        // objects that are not initialized: two NEWs, a NEW and its class, a NEW and NULL, THIS and NEW, THIS and NULL
        int[] created = {34, 4};
        dueError8(diamond(edge("16, 18", MEET), 0, created, created, 30, 0));
        dueError8(diamond(edge("16, 18", MEET), 0, created, push(32), 30, 0));
        dueError8(diamond(edge("16, 18", MEET), 0, push(-1), created, 30, 0));
        dueError8(diamond(edge("16, 18", MEET), 2, new int[] {6, 0}, created, 22, 5));
        dueError8(diamond(edge("16, 18", MEET), 2, new int[] {6, 0}, push(-1), 22, 5));
        dueError8(diamond(edge("16, 18", MEET), 2, push(32), new int[] {6, 0}, 22, 6));
    }

    private static void joinedStacks() {
        int[][] rows = {{32, 40, 24}, {40, 32, 24}, {32, 24, 24}, {24, 32, 24}, {48, 24, 16}, {-1, 32, 32}, {32, -1, 32},
            {-1, -1, -1}, {0, 0, 0}, {1, 9, 16}, {33, 41, 25}, {-1, 1, 1}, {24, 24, 24}};
        for (int[] row : rows) {
            Run run = diamond(edge("16, 22", MEET), 0, push(row[0]), push(row[1]), 30, 0);
            run.due("infer() = 0; stackHeight(" + end + ") = 1; stackSlot(" + end + ", 0) = " + row[2]);
        }
        Run longs = diamond(edge("16, 22", MEET), 0, new int[] {2, 0, 3, 0, 44, 32}, new int[] {2, 0, 3, 0, 44, 40}, 30, 0);
        longs.due("infer() = 0; stackSlot(" + end + ", 0) = 8; stackSlot(" + end + ", 1) = -3; stackSlot(" + end + ", 2) = 24");
        // THIS and the value of one NEW are the same on both ways
        edge("16, 22", MEET).due("begin(2, 3, 1) = 1").code(6, 0, 34, 3, 1, 0, 23, 4, 22, 4).due("infer() = 0; stackSlot(4, 0) = -4;"
                + "stackSlot(4, 1) = -11; stackHeight(4) = 2; visits() = 5");
    }

    private static void joinedLocals() {
        int[][] rows = {{32, 40, 24}, {-1, 32, 32}, {0, 0, 0}, {0, 24, -2}, {24, 0, -2}, {48, 24, 16}, {0, -1, -2}, {-1, -1, -1}};
        for (int[] row : rows) {
            Run run = diamond(edge("16, 23", MEET), 0, stored(row[0]), stored(row[1]), 30, 0);
            run.due("infer() = 0; stackHeight(" + end + ") = 0; localSlot(" + end + ", 4) = " + row[2] + "; localSlot(" + end
                    + ", 3) = -2");
        }
        // LONGs: at the same place, shifted by one, one slot overwritten, and only on one way
        int[][][] longs = {{{2, 0, 8, 0}, {2, 0, 8, 0}, {8, -3, -2}}, {{2, 0, 8, 0}, {2, 0, 8, 1}, {-2, -2, -2}},
            {{2, 0, 8, 0}, {2, 0, 8, 0, 1, 0, 7, 1}, {-2, -2, -2}}, {{2, 0, 8, 1}, {0, 0}, {-2, -2, -2}},
            {{1, 0, 7, 0, 1, 0, 7, 1}, {2, 0, 8, 0}, {-2, -2, -2}}};
        for (int[][] row : longs) {
            Run run = diamond(edge("16, 23", MEET), 0, row[0], row[1], 30, 0).due("infer() = 0");
            for (int local = 0; local < 3; local++) {
                run.due("localSlot(" + end + ", " + local + ") = " + row[2][local]);
            }
        }
        // THIS and its class, two NEWs, the value of one NEW
        Run objects = diamond(edge("16, 23", MEET), 2, new int[] {34, 4, 9, 1}, new int[] {34, 4, 9, 1}, 22, 7);
        objects.due("infer() = 0; localSlot(7, 0) = -4; localSlot(7, 1) = -2; begin(0, 1, 2) = 0").code(34, 4, 9, 1, 1, 0, 23, 4, 30, 0)
                .due("infer() = 0; localSlot(4, 0) = -2; localSlot(4, 1) = -10");
    }

    private static int[] stored(int value) {
        int[] push = push(value);
        int[] code = java.util.Arrays.copyOf(push, push.length + 2);
        code[push.length] = value == 0 ? 7 : 9;
        code[push.length + 1] = 4;
        return code;
    }

    private static void joinedMarks() {
        int[] initialize = {6, 0, 35, 3};
        int[] nothing = {0, 0};
        for (int[][] ways : new int[][][] {{initialize, nothing}, {nothing, initialize}}) {
            Run run = diamond(edge("16, 24", MEET), 2, ways[0], ways[1], 22, 6);
            run.due("infer() = 0; isMarked(6) = true; localSlot(6, 0) = -2; isMarked(0) = true; isMarked(2) = true");
            diamond(run, 2, ways[0], ways[1], 30, 0).due("infer() = 9; errorPosition() = 6");
        }
        Run both = diamond(edge("16, 24", MEET), 2, initialize, initialize, 30, 0);
        both.due("infer() = 0; isMarked(7) = false; localSlot(7, 0) = 32; isMarked(4) = false; isMarked(5) = true");
        diamond(both, 2, nothing, nothing, 22, 5).due("infer() = 0; isMarked(5) = true; localSlot(5, 0) = -4");
    }

    private static void pendingAgain() {
        Run run = edge("16, 19", MEET);
        // nothing differs; a local variable differs; a stack slot differs
        run.due("begin(0, 1, 1) = 0").code(1, 0, 7, 0, 21, 0, 22, 2).due("infer() = 0; visits() = 4; begin(0, 1, 1) = 0")
                .code(1, 0, 7, 0, 3, 0, 9, 0, 22, 2).due("infer() = 0; visits() = 7; localSlot(2, 0) = -2; begin(0, 1, 1) = 0")
                .code(3, 0, 0, 0, 44, 32, 22, 1).due("infer() = 0; visits() = 6; stackSlot(1, 0) = 32; stackSlot(3, 0) = 32");
        // only the mark differs: 1 has been processed without it
        int[] later = {22, 3, 0, 0, 22, 2, 1, 0, 23, 10, 6, 0, 35, 3, 3, 0, 9, 0, 22, 1, 3, 0, 9, 0, 22, 1};
        run.due("begin(2, 1, 1) = 1").code(later).due("infer() = 0; visits() = 15; isMarked(1) = true; isMarked(2) = true");
        later[4] = 30;
        run.due("begin(2, 1, 1) = 1").code(later).due("infer() = 9; errorPosition() = 2; visits() = 15");
        // a frame without the mark comes to one that has it: nothing differs
        run.due("begin(2, 1, 1) = 1").code(22, 3, 0, 0, 22, 2, 1, 0, 23, 8, 3, 0, 9, 0, 22, 1, 6, 0, 35, 3, 3, 0, 9, 0, 22, 1)
                .due("infer() = 0; visits() = 13; isMarked(1) = true");
        // up from D below B below A to Object, a step in each round; then a TOP that stays
        run.due("declareClass(4, false) = 7; begin(0, 1, 2) = 0").code(3, 0, 44, 56, 9, 0, 3, 0, 44, 32, 9, 1, 0, 0, 6, 1, 9, 0, 3, 0,
                44, 24, 9, 1, 22, 6).due("infer() = 0; localSlot(6, 0) = 24; localSlot(6, 1) = 24; localSlot(5, 0) = 56");
        // an error in the second round: the loop makes the INT, which IINC needs, to TOP
        run.due("begin(0, 1, 1) = 0").code(1, 0, 7, 0, 21, 0, 3, 0, 9, 0, 22, 2).due("infer() = 5; errorPosition() = 2;"
                + "visits() = 7; hasFrame(0) = false");
    }

    private static void firstErrorEnds() {
        edge("16, 18, 19", "The first error ends the inference.").due("begin(0, 1, 1) = 0").code(1, 0, 9, 0, 10, 0)
                .due("infer() = 4; errorPosition() = 1; visits() = 2; begin(0, 1, 1) = 0").code(22, 3, 10, 0, 30, 0, 7, 0, 22, 1)
                .due("infer() = 3; errorPosition() = 3; visits() = 2; begin(0, 1, 1) = 0").code(10, 0, 10, 0)
                .due("infer() = 3; errorPosition() = 0; visits() = 1");
    }

    // ---- promises 16, 18 and 19

    private static void inferredFrames() {
        edge("16", "Infers the frames of the code (section 4).").due("begin(4, 2, 5) = 5").code(4, 4, 5, 1, 19, 0, 16, 0, 30, 0)
                .due("infer() = 6; begin(4, 3, 5) = 5").code(4, 4, 5, 1, 19, 0, 16, 0, 7, 4, 30, 0).due("infer() = 0;"
                + "stackHeight(2) = 3; stackSlot(2, 0) = 0; stackSlot(2, 1) = 8; stackSlot(2, 2) = -3; stackHeight(3) = 2;"
                + "stackHeight(4) = 1; stackHeight(5) = 0; localSlot(5, 4) = 0; localSlot(5, 3) = 32");
        Edges.edge("16", "Throws IllegalStateException if no code was started").due("infer() = ISE; declareMethod(2, 1, -1) = 0;"
                + "infer() = ISE; begin(1, 0, 0) = IOOBE; infer() = ISE; begin(0, 13, 0) = IAE; infer() = ISE; errorPosition() = -1;"
                + "visits() = 0; begin(0, 0, 0) = 0; infer() = 7");
    }

    private static void errors() {
        for (String[] row : ERRORS) {
            edge("16, 18", "Returns the kind of the error, 1 to 11; 0 if there is none.").make(row[0]).due("infer() = " + row[1]
                    + "; errorPosition() = " + row[2] + "; infer() = " + row[1] + "; errorPosition() = " + row[2]);
            Run run = edge("16", "If there is an error, there are no inferred frames afterwards.").make(row[0]);
            run.due("infer() = " + row[1] + "; adoptFrames() = ISE");
            if (!row[0].equals("begin(0, 1, 1)")) {
                run.due("hasFrame(0) = false; stackHeight(0) = ISE; stackSlot(0, 0) = ISE; localSlot(0, 0) = ISE;"
                        + "isMarked(0) = ISE; hasFrame(1) = false");
            }
        }
        edge("16", "Returns the kind of the error, 1 to 11; 0 if there is none.").due("begin(0, 0, 0) = 0").code(30, 0)
                .due("infer() = 0; errorPosition() = -1; hasFrame(0) = true");
        // the declarations decide, also those that come after an inference without an error
        edge("16", "If there is an error, there are no inferred frames afterwards.").due("begin(0, 1, 1) = 0").code(30, 0, 34, 7)
                .due("infer() = 1; errorPosition() = 1; declareClass(2, false) = 7; infer() = 0; hasFrame(0) = true; check() = 10;"
                + "hasFrame(0) = true; addHandler(0, 0, 0, 2) = 0; infer() = 2; hasFrame(0) = false");
    }

    private static void positions() {
        String quote = "Returns the position of the error of the latest call of infer or check; -1 if it had none or there was no"
                + " such call.";
        Edges.edge("18", quote).due("errorPosition() = -1; infer() = ISE; check() = ISE; errorPosition() = -1;"
                + "declareMethod(2, 1, -1) = 0; begin(0, 1, 1) = 0; errorPosition() = -1; infer() = 7; errorPosition() = 0;"
                + "emit(0, 0) = 0; emit(10, 0) = 1; errorPosition() = 0; infer() = 3; errorPosition() = 1; emit(30, 0) = 2;"
                + "addHandler(0, 1, 0, 2) = 0; errorPosition() = 1; check() = 10; errorPosition() = 0; begin(0, 1, 1) = 0;"
                + "errorPosition() = 0; emit(30, 0) = 0; emit(30, 0) = 1; infer() = 0; errorPosition() = -1; check() = 10;"
                + "errorPosition() = 1; infer() = 0; errorPosition() = -1; emit(99, 0) = IAE; adoptFrames() = 0;"
                + "errorPosition() = -1; check() = 10; errorPosition() = 1; declareFrame(1, false) = 1; check() = 0;"
                + "errorPosition() = -1");
        Run last = edge("18", quote).due("begin(0, 1, 1) = 0").make("emit(0, 0);".repeat(99)).code(10, 0);
        last.due("infer() = 3; errorPosition() = 99; check() = 3; errorPosition() = 99; begin(0, 1, 1) = 0; emit(30, 0) = 0");
        last.make("addHandler(0, 1, 0, 2);".repeat(9)).due("addHandler(0, 2, 0, 2) = 9; infer() = 2; errorPosition() = 9");
    }

    private static void visits() {
        String quote = "Returns how many times an instruction was processed in the latest call of infer or check, including one with"
                + " an error; 0 if there was no such call.";
        Edges.edge("19", quote).due("visits() = 0; infer() = ISE; check() = ISE; visits() = 0; declareMethod(2, 1, -1) = 0;"
                + "begin(0, 1, 1) = 0; visits() = 0; infer() = 7; visits() = 0; emit(10, 0) = 0; infer() = 3; visits() = 1;"
                + "check() = 3; visits() = 1; begin(0, 1, 1) = 0; visits() = 1; emit(0, 0) = 0; emit(30, 0) = 1; emit(30, 0) = 2;"
                + "infer() = 0; visits() = 2; infer() = 0; visits() = 2; check() = 10; visits() = 2; declareFrame(2, false) = 1;"
                + "check() = 0; visits() = 3; declareFrame(0, true) = 2; visits() = 3; check() = 9; visits() = 2;"
                + "pushLocal(0) = 1; declareFrame(0, false) = 2; check() = 10; visits() = 0; infer() = 0; visits() = 2;"
                + "emit(4, 9) = 3; visits() = 2; infer() = 1; visits() = 0");
        // a handler's error counts the instruction, and so does a jump's
        edge("19", quote).due("begin(0, 1, 1) = 0").code(0, 0, 30, 0).due("addHandler(1, 2, 0, 2) = 0; infer() = 8;"
                + "errorPosition() = 1; visits() = 2; check() = 10; errorPosition() = 1; visits() = 2; begin(0, 1, 1) = 0")
                .code(0, 0, 22, 0).due("infer() = 0; visits() = 2; check() = 10; errorPosition() = 1; visits() = 2");
        // more often than there are instructions
        Run many = edge("19", quote).due("begin(0, 1, 1) = 0").code(1, 0, 7, 0).make("emit(0, 0);".repeat(95));
        many.code(3, 0, 9, 0, 22, 2).due("infer() = 0; visits() = 197; check() = 10; errorPosition() = 99; visits() = 100");
    }
}
