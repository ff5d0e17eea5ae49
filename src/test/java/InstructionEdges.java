/**
 * Section 3: what each instruction requires and does, as infer and check (promises 16 and 17) use
 * it. The classes, fields and methods are those of Steps: A 3, B 4 below A, the interface I 5, C 6.
 */
final class InstructionEdges {
    private static final String BASES = Steps.BASES;

    /** Stacks of 4, 5 and 6 slots; 6 is the maximum. */
    private static final String FOUR = " | 16 16 16 0";
    private static final String FIVE = " | 16 16 16 16 0";
    private static final String FULL = " | 16 16 16 16 16 0";

    private static String title = "";
    private static int method = 0;

    private InstructionEdges() {
    }

    static void run() {
        notation();
        constants();
        loads();
        stores();
        overwrittenLongs();
        pops();
        copies();
        longsInMoves();
        numbers();
        increments();
        branches();
        ends();
        results();
        successors();
        getFields();
        putFields();
        putFieldsOfThis();
        creation();
        createdValues();
        constructors();
        thisConstructors();
        initialized();
        calls();
        arguments();
        arrays();
        referenceArrays();
        casts();
    }

    /** Names the sentence that the next steps test. */
    private static void sentence(String quote) {
        title = Edges.title("16, 17", quote);
    }

    private static void step(String before, int op, int operand, String after) {
        Steps.step(title, method, before, op, operand, after);
    }

    /** A static code of A without a result, with four stack slots. */
    private static Run plain(int locals, int... code) {
        return new Run(title).due(BASES + "begin(0, 4, " + locals + ") = 0").code(code);
    }

    private static void notation() {
        sentence("An instruction has a code (op) and an operand");
        plain(2, 1, 0, 7, 1, 4, 1, 7, 0, 30, 0).due("infer() = 0; localSlot(2, 0) = -2; localSlot(2, 1) = 0;"
                + "stackSlot(3, 0) = 0; localSlot(4, 0) = 0; check() = 0");
        sentence("\"a, b -> c\" means: b is popped first, then a, then c is pushed; LONG counts two slots");
        step(" | 16 0 0", 16, 0, " | 16 0");
        step(" | 0", 16, 0, "error 3");
        step(" | 16", 16, 0, "error 4");
        step(" | 16 0", 16, 0, "error 4");
        step(" | 0 16", 16, 0, "error 4");
        step(" | 16 8 -3 8 -3", 17, 0, " | 16 8 -3");
        step(" | 0 8 -3", 17, 0, "error 3");
        step(" | -1 0", 39, 0, " | 0");
        step(" | 0 -1", 39, 0, "error 4");
    }

    private static void constants() {
        sentence("0 NOP.");
        step(" |", 0, 0, " |");
        step("0 16 | 16", 0, -7, "0 16 | 16");
        step(FULL, 0, 0, FULL);
        sentence("1 ICONST: -> INT.");
        step(" |", 1, 99, " | 0");
        step(FIVE, 1, 0, FIVE + " 0");
        step(FULL, 1, 0, "error 6");
        sentence("2 LCONST: -> LONG.");
        step(" |", 2, 99, " | 8 -3");
        step(FOUR, 2, 0, FOUR + " 8 -3");
        step(FIVE, 2, 0, "error 6");
        step(FULL, 2, 0, "error 6");
        sentence("3 ANULL: -> NULL.");
        step(" |", 3, 99, " | -1");
        step(FIVE, 3, 0, FIVE + " -1");
        step(FULL, 3, 0, "error 6");
    }

    private static void loads() {
        sentence("4 ILOAD n, 5 LLOAD n, 6 ALOAD n: push the value of the local variable n (LONG: n and n + 1), which must be"
                + " INT; LONG; any reference.");
        step("0 |", 4, 0, "0 | 0");
        step("16 16 16 0 |", 4, 3, "16 16 16 0 | 0");
        for (String local : new String[] {"-2", "-1", "16", "1", "8 -3", "-4", "-10"}) {
            step(local + " |", 4, 0, "error 5");
        }
        step("8 -3 |", 4, 1, "error 5");
        step("0 |", 4, 1, "error 5");
        step("8 -3 |", 5, 0, "8 -3 | 8 -3");
        step("16 16 8 -3 |", 5, 2, "16 16 8 -3 | 8 -3");
        step("8 -3 0 |", 5, 1, "error 5");
        step("0 8 -3 |", 5, 0, "error 5");
        step("8 -3 8 -3 |", 5, 1, "error 5");
        for (String locals : new String[] {"-2", "0 0", "-1 -1", "16 16", "9", "-4 -4", "-10 -10"}) {
            step(locals + " |", 5, 0, "error 5");
        }
        for (String local : new String[] {"-1", "16", "1", "9", "12", "40", "44", "-4", "-10", "-109"}) {
            step(local + " |", 6, 0, local + " | " + local);
            step("0 0 0 " + local + " |", 6, 3, "0 0 0 " + local + " | " + local);
        }
        for (String local : new String[] {"-2", "0", "8 -3"}) {
            step(local + " |", 6, 0, "error 5");
        }
        step("8 -3 |", 6, 1, "error 5");
        step("0" + FIVE, 4, 0, "0" + FIVE + " 0");
        step("0" + FULL, 4, 0, "error 6");
        step("16" + FULL, 4, 0, "error 5");
        step("8 -3" + FOUR, 5, 0, "8 -3" + FOUR + " 8 -3");
        step("8 -3" + FIVE, 5, 0, "error 6");
        step("0" + FULL, 5, 0, "error 5");
        step("-1" + FIVE, 6, 0, "-1" + FIVE + " -1");
        step("-1" + FULL, 6, 0, "error 6");
        step("0" + FULL, 6, 0, "error 5");
    }

    private static void stores() {
        sentence("7 ISTORE n, 8 LSTORE n, 9 ASTORE n: pop INT; LONG; any reference, and store it into n (LONG: n and n + 1).");
        step(" | 16 0", 7, 0, "0 | 16");
        step(" | 0", 7, 3, "-2 -2 -2 0 |");
        step(" |", 7, 0, "error 3");
        for (String value : new String[] {"-1", "16", "1", "8 -3", "-2", "-4", "-10"}) {
            step(" | " + value, 7, 0, "error 4");
        }
        step(" | 16 8 -3", 8, 0, "8 -3 | 16");
        step(" | 8 -3", 8, 2, "-2 -2 8 -3 |");
        step(" |", 8, 0, "error 3");
        for (String value : new String[] {"0", "16", "-2"}) {
            step(" | " + value, 8, 0, "error 3");
        }
        for (String value : new String[] {"0 0", "8 -3 0", "16 16", "-2 -2", "9 9"}) {
            step(" | " + value, 8, 0, "error 4");
        }
        for (String value : new String[] {"-1", "16", "1", "9", "12", "40", "44", "-4", "-10", "-109"}) {
            step(" | 0 " + value, 9, 0, value + " | 0");
            step(" | " + value, 9, 3, "-2 -2 -2 " + value + " |");
        }
        for (String value : new String[] {"0", "-2", "8 -3"}) {
            step(" | " + value, 9, 0, "error 4");
        }
        step(" |", 9, 0, "error 3");
    }

    private static void overwrittenLongs() {
        sentence("When a slot of local variables is overwritten, the other slot of a LONG to which it belonged becomes TOP.");
        step("8 -3 | 0", 7, 0, "0 -2 |");
        step("8 -3 | 0", 7, 1, "-2 0 |");
        step("8 -3 8 -3 | 0", 7, 1, "-2 0 8 -3 |");
        step("8 -3 8 -3 | 0", 7, 2, "8 -3 0 -2 |");
        step("16 16 8 -3 | 0", 7, 2, "16 16 0 -2 |");
        step("16 16 8 -3 | 0", 7, 3, "16 16 -2 0 |");
        step("8 -3 8 -3 | -1", 9, 0, "-1 -2 8 -3 |");
        step("8 -3 8 -3 | -1", 9, 3, "8 -3 -2 -1 |");
        step("8 -3 8 -3 | 8 -3", 8, 1, "-2 8 -3 -2 |");
        step("8 -3 8 -3 | 8 -3", 8, 0, "8 -3 8 -3 |");
        step("8 -3 8 -3 | 8 -3", 8, 2, "8 -3 8 -3 |");
        step("0 8 -3 0 | 8 -3", 8, 0, "8 -3 -2 0 |");
        step("0 8 -3 0 | 8 -3", 8, 2, "0 -2 8 -3 |");
        step("0 8 -3 0 | 8 -3", 8, 1, "0 8 -3 0 |");
        step("0 8 -3 0 | 0", 7, 0, "0 8 -3 0 |");
        step("0 8 -3 0 | 0", 7, 3, "0 8 -3 0 |");
        plain(12, 2, 0, 8, 10, 1, 0, 7, 10, 2, 0, 8, 10, 1, 0, 7, 11, 30, 0)
                .due("infer() = 0; localSlot(2, 10) = 8; localSlot(2, 11) = -3; localSlot(4, 9) = -2; localSlot(4, 10) = 0;"
                + "localSlot(4, 11) = -2; localSlot(8, 10) = -2; localSlot(8, 11) = 0; check() = 0");
        plain(12, 2, 0, 8, 0, 2, 0, 8, 1, 1, 0, 7, 2, 30, 0).due("infer() = 0; localSlot(4, 0) = -2; localSlot(4, 1) = 8;"
                + "localSlot(4, 2) = -3; localSlot(6, 1) = -2; localSlot(6, 2) = 0; localSlot(6, 3) = -2");
    }

    private static final String[] SINGLE = {"0", "-1", "-2", "-4", "-10", "16", "1"};

    private static void pops() {
        sentence("10 POP: pops one slot.");
        sentenceForEach(10);
        sentence("11 POP2: pops two slots.");
        sentenceForEach(11);
    }

    /** What the instructions 10 to 15 do with two slots of which none belongs to a LONG, and with too few. */
    private static void sentenceForEach(int op) {
        for (String a : SINGLE) {
            String two = "0 " + a;
            String[] after = {"0", "", two + " " + a, a + " " + two, two + " " + two, a + " 0"};
            step(" | " + two, op, 0, " | " + after[op - 10]);
            step(" | 8 -3 " + two, op, 0, " | 8 -3 " + after[op - 10]);
        }
        step(" |", op, 0, "error 3");
        boolean takesOne = op == 10 || op == 12;
        step(" | 16", op, 0, !takesOne ? "error 3" : op == 10 ? " |" : " | 16 16");
    }

    private static void copies() {
        sentence("12 DUP: a -> a, a.");
        sentenceForEach(12);
        step(FIVE, 12, 0, FIVE + " 0");
        step(FULL, 12, 0, "error 6");
        sentence("13 DUPX1: a, b -> b, a, b.");
        sentenceForEach(13);
        step(" | -1 0", 13, 0, " | 0 -1 0");
        step(FIVE, 13, 0, " | 16 16 16 0 16 0");
        step(FULL, 13, 0, "error 6");
        sentence("14 DUP2: a, b -> a, b, a, b.");
        sentenceForEach(14);
        step(" | -1 0", 14, 0, " | -1 0 -1 0");
        step(FOUR, 14, 0, " | 16 16 16 0 16 0");
        step(FIVE, 14, 0, "error 6");
        step(FULL, 14, 0, "error 6");
        sentence("15 SWAP: a, b -> b, a.");
        sentenceForEach(15);
        step(" | 16 0 -1", 15, 0, " | 16 -1 0");
        step(FULL, 15, 0, " | 16 16 16 16 0 16");
    }

    private static void longsInMoves() {
        sentence("Here a and b stand for one slot each; POP, DUP, DUPX1 and SWAP must not concern a slot of a LONG; for POP2 and"
                + " DUP2 the two slots must be those of one LONG, or two slots of which none belongs to a LONG.");
        for (int op : new int[] {10, 12, 13, 15}) {
            step(" | 8 -3", op, 0, "error 4");
            step(" | 0 8 -3", op, 0, "error 4");
            step(" | 8 -3 8 -3", op, 0, "error 4");
        }
        for (int op : new int[] {13, 15}) {
            step(" | 8 -3 0", op, 0, "error 4");
            step(" | 0", op, 0, "error 3");
        }
        step(" | 8 -3 0", 10, 0, " | 8 -3");
        step(" | 8 -3 0", 12, 0, " | 8 -3 0 0");
        for (int op : new int[] {11, 14}) {
            step(" | 8 -3 0", op, 0, "error 4");
            step(" | 16 8 -3 0", op, 0, "error 4");
            step(" | 0", op, 0, "error 3");
            step(" | -2", op, 0, "error 3");
        }
        step(" | 8 -3", 11, 0, " |");
        step(" | 0 8 -3", 11, 0, " | 0");
        step(" | 8 -3 8 -3", 11, 0, " | 8 -3");
        step(" | 8 -3", 14, 0, " | 8 -3 8 -3");
        step(" | 16 0 8 -3", 14, 0, " | 16 0 8 -3 8 -3");
        step(" | 16 16 0 8 -3", 14, 0, "error 6");
    }

    private static void numbers() {
        sentence("16 IADD: INT, INT -> INT.");
        step(" | 0 0", 16, 0, " | 0");
        step(" |", 16, 0, "error 3");
        step(" | 8 -3 0", 16, 0, "error 4");
        step(" | 0 -1", 16, 0, "error 4");
        step(" | -1 0", 16, 0, "error 4");
        for (int op : new int[] {17, 20}) {
            sentence(op == 17 ? "17 LADD: LONG, LONG -> LONG." : "20 LCMP: LONG, LONG -> INT.");
            step(" | 8 -3 8 -3", op, 0, op == 17 ? " | 8 -3" : " | 0");
            step(" | 16 8 -3 8 -3", op, 0, op == 17 ? " | 16 8 -3" : " | 16 0");
            step(" |", op, 0, "error 3");
            step(" | 0", op, 0, "error 3");
            step(" | 16", op, 0, "error 3");
            step(" | 8 -3", op, 0, "error 3");
            step(" | 0 8 -3", op, 0, "error 3");
            step(" | 0 0", op, 0, "error 4");
            step(" | 0 0 8 -3", op, 0, "error 4");
            step(" | 8 -3 0", op, 0, "error 4");
            step(" | 8 -3 0 8 -3", op, 0, "error 4");
            step(" | 8 -3 0 0", op, 0, "error 4");
        }
        sentence("18 I2L: INT -> LONG.");
        step(" | 0", 18, 0, " | 8 -3");
        step(FIVE, 18, 0, " | 16 16 16 16 8 -3");
        step(FULL, 18, 0, "error 6");
        step(" |", 18, 0, "error 3");
        step(" | 8 -3", 18, 0, "error 4");
        step(" | -1", 18, 0, "error 4");
        sentence("19 L2I: LONG -> INT.");
        step(" | 8 -3", 19, 0, " | 0");
        step(" | 16 16 16 16 8 -3", 19, 0, FIVE);
        step(" |", 19, 0, "error 3");
        step(" | 0", 19, 0, "error 3");
        step(" | 0 0", 19, 0, "error 4");
        step(" | 8 -3 0", 19, 0, "error 4");
    }

    private static void increments() {
        sentence("21 IINC n: the local variable n must be INT.");
        step("0 |", 21, 0, "0 |");
        step("16 16 16 0 |", 21, 3, "16 16 16 0 |");
        step("0" + FULL, 21, 0, "0" + FULL);
        for (String local : new String[] {"-2", "-1", "16", "1", "8 -3", "-4", "-10"}) {
            step(local + " |", 21, 0, "error 5");
        }
        step("8 -3 |", 21, 1, "error 5");
        step("0 |", 21, 1, "error 5");
    }

    /** In a step that is checked, the target is the index behind the instruction. */
    private static void branches() {
        sentence("22 GOTO t.");
        step(" |", 22, 2, " |");
        step("0 | 16", 22, 2, "0 | 16");
        step(FULL, 22, 2, FULL);
        sentence("23 IFEQ t: INT ->.");
        step(" | 16 0", 23, 2, " | 16");
        branchErrors(23);
        sentence("24 IFLT2 t: INT, INT ->.");
        step(" | 16 0 0", 24, 2, " | 16");
        step(" | 0", 24, 2, "error 3");
        step(" | 16", 24, 2, "error 4");
        branchErrors(24);
        sentence("25 IFNULL t: any reference ->.");
        branchErrors(25);
        step(" | 0", 25, 2, "error 4");
        sentence("26 IFSAME t: any reference, any reference ->.");
        branchErrors(26);
        step(" | -1", 26, 2, "error 3");
        step(" | 0", 26, 2, "error 4");
        step(" | 0 -1", 26, 2, "error 4");
        step(" | -1 0", 26, 2, "error 4");
        step(" | 8 -3 -1", 26, 2, "error 4");
        for (String a : new String[] {"-1", "16", "4", "9", "40", "-4", "-10", "-109"}) {
            sentence("25 IFNULL t: any reference ->.");
            step(" | 0 " + a, 25, 2, " | 0");
            sentence("26 IFSAME t: any reference, any reference ->.");
            step(" | 0 -1 " + a, 26, 2, " | 0");
            step(" | 0 " + a + " 16", 26, 2, " | 0");
            sentence("23 IFEQ t: INT ->.");
            step(" | " + a, 23, 2, "error 4");
            sentence("24 IFLT2 t: INT, INT ->.");
            step(" | " + a + " 0", 24, 2, "error 4");
            step(" | 0 " + a, 24, 2, "error 4");
        }
        sentence("The successors of GOTO are only t; those of 23 to 26 are the next instruction and t.");
        plain(0, 22, 2, 0, 0, 30, 0).due("infer() = 0; hasFrame(1) = false; hasFrame(2) = true; visits() = 2;"
                + "begin(0, 4, 0) = 0").code(22, 0).due("infer() = 0; visits() = 1");
        for (int op = 23; op <= 26; op++) {
            int value = op <= 24 ? 1 : 3;
            plain(0, value, 0, value, 0, op, 4, 22, 3, 22, 4).due("infer() = 0; hasFrame(3) = true; hasFrame(4) = true;"
                    + "visits() = 5; begin(0, 4, 0) = 0").code(value, 0, value, 0, op, 0).due("infer() = 7;"
                    + "errorPosition() = 2; begin(0, 4, 0) = 0").code(value, 0, value, 0, op, 3, 30, 0)
                    .due("infer() = 0; visits() = 4; adoptFrames() = 1; check() = 0");
        }
    }

    private static void branchErrors(int op) {
        step(" |", op, 2, "error 3");
        step(" | 8 -3", op, 2, "error 4");
        step(" | -2", op, 2, "error 4");
    }

    // ---- 27 to 31

    private static final String[] VALUES = {"0", "8 -3", "-1", "24", "32", "16", "25", "33", "1", "40", "-4", "-10", "-2"};

    private static boolean isOneOf(String value, String values) {
        return (" " + values + " ").contains(" " + value + " ");
    }

    private static boolean isReference(String value) {
        return isOneOf(value, "-1 24 32 16 25 33 1 40");
    }

    /** The methods 0 to 4 have the results VOID, INT, LONG, A, A[]; 5 is a constructor, 14 has the result I. */
    private static void ends() {
        for (int number : new int[] {0, 1, 2, 3, 4, 5, 14}) {
            method = number;
            for (String value : VALUES) {
                sentence("27 IRETURN: INT ->.");
                step(" | " + value, 27, 0, !value.equals("0") ? "error 4" : method == 1 ? "|" : "error 9");
                sentence("28 LRETURN: LONG ->.");
                step(" | " + value, 28, 0, !value.equals("8 -3") ? "error 3" : method == 2 ? "|" : "error 9");
                sentence("29 ARETURN: reference ->.");
                boolean isRight = method == 3 && isOneOf(value, "-1 24 32")
                        || method == 4 && isOneOf(value, "-1 25 33")
                        || method == 14;
                step(" | " + value, 29, 0, !isReference(value) ? "error 4" : isRight ? "|" : "error 9");
                sentence("30 RETURN.");
                step(" | " + value, 30, 0, method == 0 || method == 5 ? "|" : "error 9");
                sentence("31 ATHROW: reference ->.");
                step(" | " + value, 31, 0, isReference(value) ? "|" : "error 4");
            }
            sentence("28 LRETURN: LONG ->.");
            step(" | 0 0", 28, 0, "error 4");
            step(" | 8 -3 0", 28, 0, "error 4");
            sentence("Then values are popped, one after the other from the top (the two slots of POP2 and DUP2 at once); for"
                    + " each of them: error 3, there are fewer slots on the stack than it occupies");
            for (int op : new int[] {27, 28, 29, 31}) {
                step(" |", op, 0, "error 3");
            }
        }
        method = 0;
    }

    private static void results() {
        sentence("The result of the method must be INT for IRETURN, LONG for LRETURN, a reference type to which the popped value"
                + " is assignable for ARETURN, and VOID for RETURN; RETURN also requires that the frame does not have the mark"
                + " \"not initialized\" (section 4).");
        method = 0;
        step(" |", 30, 0, "|");
        step(FULL, 30, 0, "|");
        step("! |", 30, 0, "error 9");
        step("! | 40", 31, 0, "|");
        method = 1;
        step(" | 16 16 0", 27, 0, "|");
        step("! | 0", 27, 0, "|");
        step("! |", 30, 0, "error 9");
        method = 2;
        step(" | 0 8 -3", 28, 0, "|");
        step("! | 8 -3", 28, 0, "|");
        method = 3;
        step(" | 16 32", 29, 0, "|");
        step("! | 24", 29, 0, "|");
        step("! | 16", 29, 0, "error 9");
        method = 5;
        step("! |", 30, 0, "error 9");
        step(" |", 30, 0, "|");
        method = 0;
        // LONG[] and INT[] are results like other reference types
        new Run(title).due("declareMethod(2, 1, 9) = 0; declareMethod(2, 1, 1) = 1; begin(0, 2, 0) = 0").code(3, 0, 29, 0)
                .due("infer() = 0; begin(0, 2, 0) = 0").code(2, 0, 28, 0).due("infer() = 9; errorPosition() = 1;"
                + "begin(1, 2, 0) = 0").code(1, 0, 27, 0).due("infer() = 9; begin(1, 2, 0) = 0").code(1, 0, 38, 0, 29, 0)
                .due("infer() = 0; begin(1, 2, 0) = 0").code(1, 0, 38, 8, 29, 0).due("infer() = 9; errorPosition() = 2");
    }

    private static void successors() {
        sentence("These have no successors.");
        int[][] ends = {{1, 1, 27}, {2, 2, 28}, {3, 3, 29}, {0, 0, 30}, {0, 3, 31}};
        for (int[] end : ends) {
            Run run = new Run(title).due(BASES + "begin(" + end[0] + ", 2, 0) = 0").code(end[1], 0, end[2], 0);
            run.due("infer() = 0; visits() = 2; check() = 0; visits() = 2; emit(0, 0) = 2; infer() = 0; hasFrame(2) = false;"
                    + "check() = 10; errorPosition() = 2; visits() = 2");
        }
        sentence("All other instructions have the next instruction as their only successor.");
        int[][] codes = {{0, 0}, {1, 0}, {2, 0}, {3, 0}, {1, 0, 7, 0, 4, 0}, {2, 0, 8, 0, 5, 0}, {3, 0, 9, 0, 6, 0},
            {1, 0, 7, 0}, {2, 0, 8, 0}, {3, 0, 9, 0}, {1, 0, 10, 0}, {2, 0, 11, 0}, {1, 0, 12, 0}, {1, 0, 1, 0, 13, 0},
            {2, 0, 14, 0}, {1, 0, 1, 0, 15, 0}, {1, 0, 1, 0, 16, 0}, {2, 0, 2, 0, 17, 0}, {1, 0, 18, 0}, {2, 0, 19, 0},
            {2, 0, 2, 0, 20, 0}, {1, 0, 7, 0, 21, 0}, {3, 0, 32, 0}, {3, 0, 1, 0, 33, 0}, {34, 3}, {34, 3, 35, 6},
            {3, 0, 36, 9}, {37, 0}, {1, 0, 38, 0}, {3, 0, 1, 0, 39, 0}, {3, 0, 1, 0, 1, 0, 40, 0}, {3, 0, 1, 0, 41, 0},
            {3, 0, 1, 0, 3, 0, 42, 0}, {3, 0, 43, 0}, {3, 0, 44, 24}, {3, 0, 45, 24}};
        for (int[] code : codes) {
            int last = code.length / 2 - 1;
            Run run = plain(2, code).due("infer() = 7; errorPosition() = " + last + "; visits() = " + (last + 1)
                    + "; check() = 7; errorPosition() = " + last + "; visits() = " + (last + 1));
            run.code(30, 0, 30, 0).due("infer() = 0; visits() = " + (last + 2) + "; hasFrame(" + (last + 1) + ") = true;"
                    + "hasFrame(" + (last + 2) + ") = false; check() = 10; errorPosition() = " + (last + 2));
        }
    }

    // ---- fields

    private static void getFields() {
        sentence("32 GETFIELD f: reference assignable to the owner -> the type of the field.");
        step(" | 24", 32, 0, " | 0");
        step(" | 32", 32, 1, " | 8 -3");
        step(" | -1", 32, 2, " | 24");
        step(" | 0 48", 32, 3, " | 0 1");
        for (String a : new String[] {"1", "16", "24", "25", "40", "-1"}) {
            step(" | " + a, 32, 4, " | 40");
        }
        for (String a : new String[] {"16", "48", "25", "40", "1", "0", "8 -3", "-2", "-4", "-10"}) {
            step(" | " + a, 32, 2, "error 4");
        }
        step(" | 24", 32, 5, "error 4");
        step(" |", 32, 2, "error 3");
        step(" | 0 0 0 0 24", 32, 1, " | 0 0 0 0 8 -3");
        step(" | 0 0 0 0 0 24", 32, 1, "error 6");
        step(" | 0 0 0 0 0 24", 32, 0, " | 0 0 0 0 0 0");
    }

    private static void putFields() {
        sentence("33 PUTFIELD f: an object, and above it a value -> ; the value must be assignable to the type of the field (INT"
                + " or LONG: it must be this type), and the object must be a reference assignable to the owner");
        step(" | 0 24 0", 33, 0, " | 0");
        step(" | 32 8 -3", 33, 1, " |");
        step(" | -1 32", 33, 2, " |");
        step(" | 24 -1", 33, 2, " |");
        step(" | 48 1", 33, 3, " |");
        step(" | 1 48", 33, 4, " |");
        for (String value : new String[] {"-1", "16", "24", "1", "-2", "-4", "-10", "8 -3"}) {
            step(" | 24 " + value, 33, 0, "error 4");
        }
        for (String value : new String[] {"0", "16", "9", "8 -3 0", "-2 -2", "-1 -1"}) {
            step(" | 24 " + value, 33, 1, "error 4");
        }
        for (String value : new String[] {"0", "16", "25", "40", "-2", "-4", "-10", "8 -3"}) {
            step(" | 24 " + value, 33, 2, "error 4");
        }
        for (String a : new String[] {"16", "48", "25", "40", "1", "0", "8 -3", "-2", "-10"}) {
            step(" | " + a + " 0", 33, 0, "error 4");
            step(" | " + a + " -1", 33, 2, "error 4");
        }
        step(" | 0", 33, 0, "error 3");
        step(" |", 33, 0, "error 3");
        step(" | 0", 33, 1, "error 3");
        step(" | 16", 33, 1, "error 3");
        step(" | 8 -3", 33, 1, "error 3");
        step(" | -1", 33, 2, "error 3");
    }

    /** The methods 0 and 6 have the owner A, method 5 has the owner B. */
    private static void putFieldsOfThis() {
        sentence("or THIS if the owner of the field is the owner of the method of the code.");
        for (int number : new int[] {0, 6}) {
            method = number;
            step("! | -4 0", 33, 0, "! |");
            step("! | -4 8 -3", 33, 1, "! |");
            step("! | -4 -1", 33, 2, "! |");
            step("! | -4", 32, 0, "error 4");
            step("! | -4 48", 33, 4, "error 4");
            step("! | -4 -1", 33, 3, "error 4");
            step("! | -4 -1", 33, 5, "error 4");
            step("! | -10 0", 33, 0, "error 4");
            step("! | -4 -4", 33, 2, "error 4");
            step("! | -4 -1", 33, 0, "error 4");
        }
        method = 5;
        step("! | -4 0", 33, 0, "error 4");
        step("! | -4 32", 33, 5, "! |");
        step("! | 32 0", 33, 0, "! |");
        method = 0;
        new Run(title).due(BASES + "begin(6, 2, 1) = 1").code(6, 0, 1, 0, 33, 0, 6, 0, 35, 7, 30, 0)
                .due("infer() = 0; check() = 0; begin(6, 2, 1) = 1").code(6, 0, 32, 0).due("infer() = 4; errorPosition() = 1;"
                + "begin(5, 2, 1) = 1").code(6, 0, 1, 0, 33, 0).due("infer() = 4; errorPosition() = 2; check() = 4");
    }

    // ---- objects

    /** In a step the NEW is at index 1, so its value is -11. */
    private static void creation() {
        sentence("34 NEW c: -> -10 - i, where i is the index of the instruction.");
        step("24 | 16", 34, 3, "24 | 16 -11");
        step(" |", 34, 2, " | -11");
        step(FIVE, 34, 3, FIVE + " -11");
        step(FULL, 34, 3, "error 6");
        plain(0, 34, 3, 34, 4, 11, 0, 30, 0).due("infer() = 0; stackSlot(1, 0) = -10; stackSlot(2, 0) = -10;"
                + "stackSlot(2, 1) = -11");
        Run last = plain(0).make("emit(0, 0);".repeat(98));
        last.code(34, 2, 30, 0).due("infer() = 0; stackSlot(99, 0) = -108; begin(0, 4, 0) = 0").make("emit(0, 0);".repeat(99));
        last.code(34, 2).due("infer() = 7; errorPosition() = 99; visits() = 100");
        sentence("This value must not be on the stack before; local variables that contain it become TOP.");
        step(" | -11", 34, 3, "error 4");
        step(" | -11 0 0", 34, 3, "error 4");
        step("-11 -10 -11 -12 |", 34, 3, "-2 -10 -2 -12 | -11");
        step("-10 -10 -10 -11 | -10 -12", 34, 3, "-10 -10 -10 -2 | -10 -12 -11");
        step("-11 | -11", 34, 3, "error 4");
        sentence("NEW pops nothing; it has error 4 if its value is on the stack already.");
        step(" | -11 0 0 0 0 0", 34, 3, "error 4");
        step(" | 0 0 0 0 0 -11", 34, 3, "error 4");
        step(" | 0 0 0 0 0 -10", 34, 3, "error 6");
        step("-11 | 0 0 0 0 0", 34, 3, "-2 | 0 0 0 0 0 -11");
        // a value that has been popped is no longer on the stack; a full stack of twelve has no room
        new Run(title).due(BASES + "begin(0, 12, 0) = 0").code(30, 0, 10, 0, 34, 3, 10, 0, 30, 0).due("pushStack(-12) = 1;"
                + "declareFrame(1, false) = 1; check() = 0; begin(0, 12, 0) = 0").make("emit(1, 0);".repeat(12)).code(34, 3)
                .due("infer() = 6; errorPosition() = 12; check() = 6; errorPosition() = 12; begin(0, 12, 0) = 0")
                .make("emit(1, 0);".repeat(11)).code(34, 3, 30, 0).due("infer() = 0; stackSlot(12, 11) = -21; check() = 0");
    }

    /** That the locals become TOP shows where the declared frame has another value than TOP for them. */
    private static void createdValues() {
        sentence("local variables that contain it become TOP.");
        new Run(title).due("declareMethod(2, 1, -1) = 0; begin(0, 1, 2) = 0")
                .code(30, 0, 34, 2, 22, 2).due("pushLocal(-11) = 1; pushLocal(-10) = 2; declareFrame(1, false) = 1;"
                + "pushLocal(-2) = 1; pushLocal(-10) = 2; pushStack(-11) = 1; declareFrame(2, false) = 2; check() = 0;"
                + "pushLocal(-11) = 1; pushLocal(-10) = 2; pushStack(-11) = 1; declareFrame(2, false) = 2; check() = 10;"
                + "errorPosition() = 2");
        new Run(title).due("declareMethod(2, 1, -1) = 0; begin(0, 1, 2) = 0").code(30, 0, 34, 2, 10, 0, 6, 1, 10, 0, 30, 0)
                .due("pushLocal(-11) = 1; pushLocal(-10) = 2; declareFrame(1, false) = 1; check() = 0; pushLocal(-10) = 1;"
                + "pushLocal(-11) = 2; declareFrame(1, false) = 1; check() = 5; errorPosition() = 3");
        plain(3, 34, 3, 9, 1, 22, 0).due("infer() = 0; localSlot(1, 1) = -2; visits() = 3; localSlot(2, 1) = -10");
        plain(3, 34, 3, 12, 0, 9, 1, 25, 5, 30, 0, 6, 1, 10, 0, 22, 0).due(
                "infer() = 0; localSlot(0, 1) = -2; localSlot(5, 1) = -10");
        plain(3, 34, 3, 22, 0).due("infer() = 8; errorPosition() = 1; visits() = 2");
    }

    private static void constructors() {
        sentence("35 INVOKESPECIAL m (a constructor): an object, and above it the arguments -> ; the object must be THIS, with"
                + " the owner of m the owner of the method of the code or its superclass, or -10 - i, where the instruction at i"
                + " is a NEW whose operand is the owner of m.");
        plain(3, 34, 3, 12, 0, 9, 0, 12, 0, 35, 6, 30, 0).due("infer() = 0;"
                + "stackSlot(4, 0) = -10; stackSlot(4, 1) = -10; localSlot(4, 0) = -10; stackHeight(5) = 1;"
                + "stackSlot(5, 0) = 24; localSlot(5, 0) = 24; localSlot(5, 1) = -2; isMarked(5) = false; check() = 0");
        plain(0, 34, 4, 35, 6, 30, 0).due("infer() = 4; errorPosition() = 1; check() = 4");
        plain(0, 34, 4, 35, 5, 30, 0).due("infer() = 0; check() = 0");
        plain(0, 34, 3, 35, 5, 30, 0).due("infer() = 4; errorPosition() = 1; check() = 4");
        plain(0, 34, 2, 35, 7, 30, 0).due("infer() = 0; check() = 0");
        plain(0, 34, 3, 35, 7, 30, 0).due("infer() = 4; errorPosition() = 1");
        plain(0, 34, 3, 12, 0, 35, 6, 35, 6, 30, 0).due("infer() = 4; errorPosition() = 3; check() = 4");
        plain(0, 35, 6, 30, 0).due("infer() = 3; errorPosition() = 0; check() = 3");
        plain(0, 34, 3, 1, 0, 2, 0, 35, 8).due("infer() = 4; errorPosition() = 3; begin(0, 6, 0) = 0")
                .code(34, 3, 12, 0, 1, 0, 2, 0, 3, 0, 35, 8, 30, 0).due("infer() = 0; stackHeight(5) = 6; stackHeight(6) = 1;"
                + "stackSlot(6, 0) = 24; check() = 0");
        // -10 is a GOTO here, -11 the INVOKESPECIAL itself, -12 a GOTO, -13 and -109 are behind the code
        for (String a : new String[] {"16", "24", "-1", "0", "-2", "-10", "-11", "-12", "-13", "-109", "8 -3", "1"}) {
            step(" | " + a, 35, 7, "error 4");
        }
        step(" |", 35, 6, "error 3");
        // a former code had a NEW at 5; this one ends at 2
        new Run(title).due(BASES + "begin(0, 1, 0) = 0").code(34, 3, 34, 3, 34, 3, 34, 3, 34, 3, 34, 3).due("begin(0, 1, 0) = 0")
                .code(30, 0, 35, 6, 30, 0).due("pushStack(-15) = 1; declareFrame(1, false) = 1; check() = 4; errorPosition() = 1;"
                + "emit(30, 0) = 3; emit(30, 0) = 4; check() = 4; emit(34, 3) = 5; check() = 10; errorPosition() = 3");
        // the last instruction of a full code is a NEW: -109
        Run last = new Run(title).due(BASES + "begin(0, 1, 0) = 0").code(30, 0, 35, 6, 30, 0);
        last.make("emit(30, 0);".repeat(96)).due("emit(34, 3) = 99; pushStack(-109) = 1; declareFrame(1, false) = 1;"
                + "check() = 10; errorPosition() = 3; pushStack(-108) = 1; declareFrame(1, false) = 1; check() = 4;"
                + "errorPosition() = 1");
    }

    /** In method 6 the owner is A, in method 5 it is B below A, in method 7 Object. */
    private static void thisConstructors() {
        method = 6;
        step("! -4 | -4", 35, 6, "24 |");
        step("! -4 | -4", 35, 7, "24 |");
        step("! -4 | -4", 35, 5, "error 4");
        step("! -4 | -4", 35, 13, "error 4");
        step("! -4 -10 | -4 0 8 -3 -1", 35, 8, "24 -10 |");
        step("-4 | -4", 35, 7, "24 |");
        method = 5;
        step("! -4 | -4", 35, 5, "32 |");
        step("! -4 | -4", 35, 6, "32 |");
        step("! -4 | -4", 35, 7, "error 4");
        method = 7;
        step(" | -4", 35, 7, " |");
        step(" | -4", 35, 6, "error 4");
        method = 0;
        new Run(title).due(BASES + "begin(6, 1, 1) = 1").code(6, 0, 35, 6, 30, 0).due("infer() = 0; begin(6, 1, 1) = 1")
                .code(6, 0, 35, 7, 30, 0).due("infer() = 0; begin(6, 1, 1) = 1").code(6, 0, 35, 13, 30, 0)
                .due("infer() = 4; errorPosition() = 1; begin(5, 1, 1) = 1").code(6, 0, 35, 7, 30, 0)
                .due("infer() = 4; errorPosition() = 1; begin(7, 1, 1) = 1").code(6, 0, 35, 7, 30, 0)
                .due("infer() = 4; errorPosition() = 1; begin(7, 1, 1) = 1").code(30, 0).due("infer() = 0");
    }

    private static void initialized() {
        sentence("All slots that contain this value become the initialized class: for THIS the owner of the method of the code,"
                + " otherwise the owner of m.");
        method = 6;
        step("! -4 16 -4 -4 | -4 0 -4 -4", 35, 7, "24 16 24 24 | 24 0 24");
        step("! -4 -10 | -11 -4 -4", 35, 7, "24 -10 | -11 24");
        method = 5;
        step("! -4 | -4 -4", 35, 6, "32 | 32");
        method = 0;
        plain(4, 34, 3, 12, 0, 9, 3, 34, 3, 9, 0, 12, 0, 35, 6, 30, 0).due("infer() = 0; stackHeight(7) = 1;"
                + "stackSlot(7, 0) = 24; localSlot(7, 3) = 24; localSlot(7, 0) = -13; localSlot(7, 1) = -2; check() = 0");
        // the owner of the method of the code is A: B and C are what the NEW and the constructor say
        plain(1, 34, 4, 12, 0, 9, 0, 12, 0, 35, 5, 30, 0).due("infer() = 0; stackSlot(5, 0) = 32; localSlot(5, 0) = 32;"
                + "begin(0, 2, 1) = 0").code(34, 6, 12, 0, 35, 13, 30, 0).due("infer() = 0; stackSlot(3, 0) = 48;"
                + "begin(0, 2, 1) = 0").code(34, 2, 12, 0, 35, 7, 30, 0).due("infer() = 0; stackSlot(3, 0) = 16");
        sentence("INVOKESPECIAL on THIS removes the mark.");
        new Run(title).due(BASES + "begin(5, 2, 2) = 1").code(6, 0, 12, 0, 9, 1, 35, 6, 30, 0).due("infer() = 0;"
                + "localSlot(3, 0) = -4; localSlot(3, 1) = -4; isMarked(0) = true; isMarked(3) = true;"
                + "localSlot(4, 0) = 32; localSlot(4, 1) = 32; isMarked(4) = false; check() = 0; begin(6, 2, 1) = 1")
                .code(34, 3, 35, 6, 30, 0).due("infer() = 9; errorPosition() = 2; check() = 9; begin(6, 2, 1) = 1")
                .code(30, 0).due("infer() = 9; errorPosition() = 0; check() = 9; begin(6, 1, 1) = 1")
                .code(6, 0, 35, 7, 6, 0, 35, 7, 30, 0).due("infer() = 4; errorPosition() = 3");
    }

    private static void calls() {
        sentence("36 INVOKEVIRTUAL m (an instance method): a reference assignable to the owner of m, and above it the arguments"
                + " -> the result.");
        step(" | 16 24", 36, 9, " | 16");
        step(" | 32", 36, 9, " |");
        step(" | -1", 36, 9, " |");
        step(" | 32 8 -3 0", 36, 10, " | 8 -3");
        for (String a : new String[] {"16", "24", "1", "25", "40", "48", "-1"}) {
            step(" | " + a + " 48", 36, 11, " | 24");
        }
        for (String a : new String[] {"16", "48", "25", "40", "1", "0", "8 -3", "-2", "-4", "-10"}) {
            step(" | " + a, 36, 9, "error 4");
        }
        for (String a : new String[] {"0", "-2", "-4", "-10"}) {
            step(" | " + a + " 48", 36, 11, "error 4");
        }
        step(" |", 36, 9, "error 3");
        step(" | 8 -3 0", 36, 10, "error 3");
        step(" | 16", 36, 11, "error 3");
        sentence("37 INVOKESTATIC m (a static method): the arguments -> the result.");
        step(" |", 37, 0, " |");
        step(" | 0", 37, 0, " | 0");
        step(" | 0", 37, 2, " | 0 8 -3");
        step(" | 0 32 1", 37, 12, " | 0 1");
        step(" | -1 -1", 37, 12, " | 1");
        step(FULL, 37, 0, FULL);
        step(FIVE, 37, 1, FIVE + " 0");
        step(FULL, 37, 1, "error 6");
        step(FOUR, 37, 2, FOUR + " 8 -3");
        step(FIVE, 37, 2, "error 6");
    }

    private static void arguments() {
        sentence("Arguments are pushed in the order of the parameters; each must be assignable to its parameter (INT or LONG: it"
                + " must be this type).");
        step(" | 24 8 -3 0", 36, 10, " | 8 -3");
        step(" | 24 0 8 -3", 36, 10, "error 4");
        step(" | 24 8 -3", 36, 10, "error 4");
        step(" | 24 0 0", 36, 10, "error 4");
        step(" | 24 -1 -1 0", 36, 10, "error 4");
        step(" | 24 8 -3 -1", 36, 10, "error 4");
        step(" | 24 0", 36, 10, "error 3");
        step(" | 0", 36, 10, "error 3");
        step(" | 0 0", 36, 10, "error 3");
        step(" | 8 -3 0", 36, 10, "error 3");
        step(" | 24 1", 37, 12, " | 1");
        step(" | 1 24", 37, 12, "error 4");
        step(" | 16 1", 37, 12, "error 4");
        step(" | 48 1", 37, 12, "error 4");
        step(" | 24 9", 37, 12, "error 4");
        step(" | 24 2", 37, 12, "error 4");
        step(" | 1", 37, 12, "error 3");
        step(" |", 37, 12, "error 3");
        for (String a : new String[] {"0", "-2", "-4", "-10"}) {
            step(" | 24 " + a, 36, 11, "error 4");
            step(" | " + a + " 1", 37, 12, "error 4");
        }
        step(" | 0 0 8 -3 16", 35, 8, "error 4");
        step(" | 0 0 0 0 24", 35, 8, "error 4");
        step(" | 0 8 -3 8 -3 24", 35, 8, "error 4");
        step(" | 8 -3 24", 35, 8, "error 3");
        step(" | 0 8 -3 24", 35, 8, "error 3");
        step(" | 24", 35, 8, "error 3");
        String six = "parameter(8) = 2; parameter(0) = 3; parameter(16) = 4; parameter(8) = 6; declareMethod(2, 1, 8) = 0;"
                + "declareMethod(2, 1, -1) = 1;";
        new Run(title).due(six + "begin(1, 6, 0) = 0").code(2, 0, 1, 0, 3, 0, 2, 0, 37, 0, 11, 0, 30, 0).due("infer() = 0;"
                + "stackHeight(4) = 6; stackHeight(5) = 2; check() = 0; begin(1, 6, 0) = 0")
                .code(1, 0, 2, 0, 3, 0, 2, 0, 37, 0).due("infer() = 4; errorPosition() = 4; begin(1, 6, 0) = 0")
                .code(1, 0, 3, 0, 2, 0, 37, 0).due("infer() = 3; errorPosition() = 3; begin(1, 6, 0) = 0")
                .code(2, 0, 3, 0, 1, 0, 2, 0, 37, 0).due("infer() = 4; errorPosition() = 4; check() = 4");
    }

    // ---- arrays and casts

    private static void arrays() {
        sentence("38 NEWARRAY T: INT -> the array type with the element type T.");
        step(" | 16 0", 38, 0, " | 16 1");
        step(" | 0", 38, 3, " | 4");
        step(" | 0", 38, 8, " | 9");
        step(" | 0", 38, 11, " | 12");
        step(" | 0", 38, 16, " | 17");
        step(" | 0", 38, 40, " | 41");
        step(" | 0", 38, 27, " | 28");
        step(FULL, 38, 0, " | 16 16 16 16 16 1");
        step(" |", 38, 0, "error 3");
        for (String a : new String[] {"-1", "16", "1", "8 -3", "-2", "-4", "-10"}) {
            step(" | " + a, 38, 0, "error 4");
        }
        sentence("39 IALOAD: INT[] or NULL, INT -> INT.");
        step(" | 16 1 0", 39, 0, " | 16 0");
        step(" | -1 0", 39, 0, " | 0");
        step(" | 1 -1", 39, 0, "error 4");
        step(" | 1 8 -3", 39, 0, "error 4");
        step(" | 0", 39, 0, "error 3");
        step(" |", 39, 0, "error 3");
        sentence("40 IASTORE: INT[] or NULL, INT, INT ->.");
        step(" | 16 1 0 0", 40, 0, " | 16");
        step(" | -1 0 0", 40, 0, " |");
        step(" | 1 0 16", 40, 0, "error 4");
        step(" | 1 16 0", 40, 0, "error 4");
        step(" | 0 0", 40, 0, "error 3");
        step(" | 0", 40, 0, "error 3");
        step(" |", 40, 0, "error 3");
        for (String a : new String[] {"9", "2", "3", "16", "17", "25", "0", "-2", "-4", "-10", "8 -3"}) {
            sentence("39 IALOAD: INT[] or NULL, INT -> INT.");
            step(" | " + a + " 0", 39, 0, "error 4");
            sentence("40 IASTORE: INT[] or NULL, INT, INT ->.");
            step(" | " + a + " 0 0", 40, 0, "error 4");
        }
        sentence("43 ARRAYLENGTH: any array type or NULL -> INT.");
        for (String a : new String[] {"1", "9", "4", "12", "17", "25", "28", "-1", "41"}) {
            step(" | 16 " + a, 43, 0, " | 16 0");
        }
        for (String a : new String[] {"16", "24", "40", "0", "-2", "-4", "-10", "8 -3"}) {
            step(" | " + a, 43, 0, "error 4");
        }
        step(" |", 43, 0, "error 3");
    }

    private static void referenceArrays() {
        String load = "41 AALOAD: an array type whose element type is a reference type, or NULL, and an INT -> the element type;"
                + " NULL if it was NULL.";
        String store = "42 AASTORE: such an array type or NULL, INT, reference ->.";
        sentence(load);
        step(" | 16 25 0", 41, 0, " | 16 24");
        step(" | 2 0", 41, 0, " | 1");
        step(" | 4 0", 41, 0, " | 3");
        step(" | 10 0", 41, 0, " | 9");
        step(" | 17 0", 41, 0, " | 16");
        step(" | 41 0", 41, 0, " | 40");
        step(" | 44 0", 41, 0, " | 43");
        step(" | -1 0", 41, 0, " | -1");
        step(" | 25 -1", 41, 0, "error 4");
        step(" | 25 8 -3", 41, 0, "error 4");
        step(" | 0", 41, 0, "error 3");
        step(" |", 41, 0, "error 3");
        for (String a : new String[] {"1", "9", "16", "24", "40", "0", "-2", "-4", "-10", "8 -3"}) {
            sentence(load);
            step(" | " + a + " 0", 41, 0, "error 4");
            sentence(store);
            step(" | " + a + " 0 -1", 42, 0, "error 4");
        }
        step(" | 16 25 0 48", 42, 0, " | 16");
        step(" | -1 0 -1", 42, 0, " |");
        step(" | 2 0 16", 42, 0, " |");
        step(" | 28 0 1", 42, 0, " |");
        for (String a : new String[] {"0", "-2", "-4", "-10", "8 -3"}) {
            step(" | 25 0 " + a, 42, 0, "error 4");
        }
        step(" | 25 -1 -1", 42, 0, "error 4");
        step(" | 0 -1", 42, 0, "error 3");
        step(" | -1", 42, 0, "error 3");
        step(" |", 42, 0, "error 3");
    }

    private static void casts() {
        for (int op : new int[] {44, 45}) {
            sentence(op == 44 ? "44 CHECKCAST T: reference -> T." : "45 INSTANCEOF T: reference -> INT.");
            for (String a : new String[] {"-1", "16", "24", "32", "40", "1", "12"}) {
                for (int type : new int[] {1, 4, 9, 16, 24, 28, 40, 48}) {
                    step(" | 0 " + a, op, type, op == 44 ? " | 0 " + type : " | 0 0");
                }
            }
            for (String a : new String[] {"0", "-2", "-4", "-10", "8 -3"}) {
                step(" | " + a, op, 24, "error 4");
            }
            step(" |", op, 24, "error 3");
            step(" | 0 0 0 0 0 16", op, 24, op == 44 ? " | 0 0 0 0 0 24" : " | 0 0 0 0 0 0");
        }
        plain(1, 3, 0, 44, 33, 44, 40, 45, 16, 10, 0, 30, 0)
                .due("infer() = 0; stackSlot(2, 0) = 33; stackSlot(3, 0) = 40; stackSlot(4, 0) = 0");
    }
}
