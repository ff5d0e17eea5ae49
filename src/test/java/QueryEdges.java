/** Edges of the promises 20 to 25: hasFrame, stackHeight, stackSlot, localSlot, isMarked, digest. */
final class QueryEdges {
    private static final int MIN = Edges.MIN;
    private static final int MAX = Edges.MAX;
    private static final int[] NO_INDICES = {-1, 8, 9, 99, 100, MIN, MAX};

    private QueryEdges() {
    }

    static void run() {
        noSuchInstruction();
        noInferredFrame();
        presentFrames();
        stackSlots();
        localSlots();
        marks();
        digestOfDeclarations();
        digestOfFrames();
        digestWraps();
    }

    /** The constructor of A (3) with a LONG: ALOAD, LLOAD, PUTFIELD, ALOAD, INVOKESPECIAL, GOTO 7, NOP (not reached), RETURN. */
    private static Run edge(String promise, String quote) {
        return Edges.edge(promise, quote).due("declareClass(2, false) = 3; parameter(8) = 2; declareMethod(3, 2, -1) = 0;"
                + "declareMethod(2, 2, -1) = 1; declareField(3, 8) = 0; begin(0, 4, 4) = 3")
                .code(6, 0, 5, 1, 33, 0, 6, 0, 35, 1, 22, 7, 0, 0, 30, 0);
    }

    private static void noSuchInstruction() {
        String quote = "Throws IndexOutOfBoundsException if the code has no such instruction";
        String[] calls = {"hasFrame(#)", "stackHeight(#)", "stackSlot(#, 0)", "localSlot(#, 0)", "isMarked(#)"};
        for (int k = 0; k < calls.length; k++) {
            String promise = "" + (20 + k);
            Run inferred = edge(promise, quote).due("infer() = 0");
            Run none = edge(promise, quote);
            for (int index : NO_INDICES) {
                inferred.due(calls[k].replace("#", "" + index) + " = IOOBE");
                none.due(calls[k].replace("#", "" + index) + " = IOOBE");
            }
            inferred.make(calls[k].replace("#", k == 2 ? "2" : "0") + ";" + calls[k].replace("#", k == 2 ? "1" : "7"));
            String zero = calls[k].replace("#", "0") + " = IOOBE;";
            Edges.edge(promise, quote).due(zero + "declareMethod(2, 1, -1) = 0;" + zero + "begin(0, 1, 1) = 0;" + zero
                    + "emit(30, 0) = 0; infer() = 0; begin(0, 1, 1) = 0;" + zero);
            Run full = Edges.edge(promise, quote).due("declareMethod(2, 1, -1) = 0; begin(0, 1, 1) = 0; emit(1, 0) = 0");
            full.make("emit(0, 0);".repeat(98)).due("emit(30, 0) = 99; infer() = 0; "
                    + calls[k].replace("#", "100") + " = IOOBE; " + calls[k].replace("#", "-1") + " = IOOBE");
            full.make(calls[k].replace("#", "99"));
        }
    }

    private static void noInferredFrame() {
        String quote = "Throws IllegalStateException if there is no inferred frame at this index";
        String[] calls = {"stackHeight(#)", "stackSlot(#, 0)", "localSlot(#, 0)", "isMarked(#)"};
        for (int k = 0; k < calls.length; k++) {
            String zero = calls[k].replace("#", "0") + " = ISE;";
            String six = calls[k].replace("#", "6") + " = ISE;";
            Run run = edge("" + (21 + k), quote);
            run.due(zero + six + "check() = 10;" + zero + "declareFrame(0, true) = 1;" + zero + "infer() = 0;" + six);
            run.make("isMarked(0); isMarked(7)").due("emit(30, 0) = 8;" + zero + "infer() = 0; addHandler(0, 1, 7, 3) = 0;"
                    + zero + "infer() = 8;" + zero);
        }
    }

    private static void presentFrames() {
        Run run = edge("20", "Returns whether there is an inferred frame at this index.");
        for (int index = 0; index < 8; index++) {
            run.due("hasFrame(" + index + ") = false");
        }
        run.due("declareFrame(0, true) = 1; check() = 5; hasFrame(0) = false; infer() = 0");
        for (int index = 0; index < 8; index++) {
            run.due("hasFrame(" + index + ") = " + (index != 6));
        }
        run.due("adoptFrames() = 1; hasFrame(6) = false; emit(0, 0) = 8; hasFrame(0) = false; infer() = 0; hasFrame(0) = true;"
                + "hasFrame(8) = false; addHandler(0, 0, 0, 2) = 0; hasFrame(0) = false; infer() = 2; hasFrame(0) = false");
        Run heights = edge("21", "Returns the height of the stack in its inferred frame.").due("infer() = 0");
        int[] due = {0, 1, 3, 0, 1, 0, -1, 0};
        for (int index = 0; index < 8; index++) {
            heights.due("stackHeight(" + index + ") = " + (due[index] < 0 ? "ISE" : "" + due[index]));
        }
        Run full = Edges.edge("21", "Returns the height of the stack in its inferred frame.").due("declareMethod(2, 1, -1) = 0;"
                + "begin(0, 12, 0) = 0").make("emit(1, 0);".repeat(12)).code(30, 0).due("infer() = 0");
        for (int height = 0; height <= 12; height++) {
            full.due("stackHeight(" + height + ") = " + height);
        }
    }

    private static void stackSlots() {
        edge("22", "Returns the value of this stack slot in its inferred frame.").due("infer() = 0; stackSlot(1, 0) = -4;"
                + "stackSlot(2, 0) = -4; stackSlot(2, 1) = 8; stackSlot(2, 2) = -3; stackSlot(4, 0) = -4");
        Run run = edge("22", "Throws java .util.NoSuchElementException if there is no such slot").due("infer() = 0");
        for (int slot : new int[] {-1, 3, 4, 11, 12, 13, MIN, MAX}) {
            run.due("stackSlot(2, " + slot + ") = NSEE");
        }
        run.due("stackSlot(0, 0) = NSEE; stackSlot(0, -1) = NSEE; stackSlot(1, 1) = NSEE; stackSlot(7, 0) = NSEE");
        Run full = Edges.edge("22", "Throws java .util.NoSuchElementException if there is no such slot").due(
                "declareMethod(2, 1, -1) = 0; begin(0, 12, 0) = 0").make("emit(1, 0);".repeat(11)).code(3, 0, 30, 0);
        full.due("infer() = 0; stackSlot(12, 0) = 0; stackSlot(12, 10) = 0; stackSlot(12, 11) = -1; stackSlot(12, 12) = NSEE;"
                + "stackSlot(11, 11) = NSEE; stackSlot(12, -1) = NSEE");
    }

    private static void localSlots() {
        edge("23", "Returns the value of this local variable in its inferred frame.").due("infer() = 0; localSlot(0, 0) = -4;"
                + "localSlot(0, 1) = 8; localSlot(0, 2) = -3; localSlot(0, 3) = -2; localSlot(5, 0) = 24; localSlot(7, 3) = -2");
        Run run = edge("23", "Throws java .util.NoSuchElementException if there is no such local variable").due("infer() = 0");
        for (int local : new int[] {-1, 4, 5, 11, 12, 13, MIN, MAX}) {
            run.due("localSlot(2, " + local + ") = NSEE; localSlot(0, " + local + ") = NSEE");
        }
        for (int locals : new int[] {0, 1, 11, 12}) {
            Run sizes = Edges.edge("23", "Throws java .util.NoSuchElementException if there is no such local variable").due(
                    "declareMethod(2, 1, -1) = 0; begin(0, 0, " + locals + ") = 0; emit(30, 0) = 0; infer() = 0;"
                    + "localSlot(0, " + locals + ") = NSEE; localSlot(0, -1) = NSEE; localSlot(0, 12) = NSEE");
            if (locals > 0) {
                sizes.due("localSlot(0, " + (locals - 1) + ") = -2; localSlot(0, 0) = -2");
            }
        }
    }

    private static void marks() {
        edge("24", "Returns whether its inferred frame has the mark \"not initialized\".").due("infer() = 0; isMarked(0) = true;"
                + "isMarked(3) = true; isMarked(4) = true; isMarked(5) = false; isMarked(7) = false; isMarked(6) = ISE;"
                + "begin(1, 1, 1) = 1; emit(30, 0) = 0; infer() = 0; isMarked(0) = false");
    }

    // ---- digest

    private static void digestOfDeclarations() {
        Edges.edge("25", "Computes a checksum.").due("digest() = " + Edges.sum(3, 0, 0, 0, 0, 0) + "; digest() = "
                + Edges.sum(3, 0, 0, 0, 0, 0) + "; declareClass(2, true) = 3; digest() = " + Edges.sum(4, 0, 0, 0, 0, 0)
                + "; declareField(2, 0) = 0; digest() = " + Edges.sum(4, 1, 0, 0, 0, 0) + "; parameter(8) = 2; pushLocal(0) = 1;"
                + "pushStack(0) = 1; digest() = " + Edges.sum(4, 1, 0, 0, 0, 0) + "; declareMethod(2, 1, -1) = 0; digest() = "
                + Edges.sum(4, 1, 1, 0, 0, 0) + "; begin(0, 3, 3) = 2; digest() = " + Edges.sum(4, 1, 1, 0, 0, 0)
                + "; emit(0, 0) = 0; digest() = " + Edges.sum(4, 1, 1, 1, 0, 0, 0) + "; addHandler(0, 1, 0, 2) = 0; digest() = "
                + Edges.sum(4, 1, 1, 1, 1, 0, 0) + "; declareFrame(0, false) = 1; digest() = " + Edges.sum(4, 1, 1, 1, 1, 1, 0)
                + "; emit(30, 0) = 1; digest() = " + Edges.sum(4, 1, 1, 2, 1, 1, 0, 0) + "; begin(0, 3, 3) = 2; digest() = "
                + Edges.sum(4, 1, 1, 0, 0, 0));
        Edges.edge("25", "Returns d.").due("digest() = " + ((((((37L * 31 + 3) * 31) * 31) * 31) * 31) * 31));
        Run full = Edges.edge("25", "the number of bases, of fields, of methods, of instructions, of handlers, and of indices with a"
                + " declared frame").make("declareClass(2, false);".repeat(17) + "declareField(2, 0);".repeat(30)
                + "declareMethod(2, 1, -1);".repeat(30) + "begin(0, 1, 0);" + "emit(0, 0);".repeat(100)
                + "addHandler(0, 1, 0, 2);".repeat(10));
        long[] numbers = new long[106];
        long[] head = {20, 30, 30, 100, 10, 100};
        System.arraycopy(head, 0, numbers, 0, 6);
        for (int index = 0; index < 100; index++) {
            full.make("declareFrame(" + index + ", false)");
        }
        full.due("digest() = " + Edges.sum(numbers));
    }

    private static void digestOfFrames() {
        String quote = "for each index of the code, 1 if it has an inferred frame, otherwise 0; and if it has one, the height of the"
                + " stack, the values of all its slots (the local variables first), and 1 if it has the mark, otherwise 0";
        edge("25", quote).due("digest() = " + Edges.sum(4, 1, 2, 8, 0, 0, 0, 0, 0, 0, 0, 0, 0, 0) + "; infer() = 0; digest() = "
                + Edges.sum(4, 1, 2, 8, 0, 0,
                        1, 0, -4, 8, -3, -2, 1,
                        1, 1, -4, 8, -3, -2, -4, 1,
                        1, 3, -4, 8, -3, -2, -4, 8, -3, 1,
                        1, 0, -4, 8, -3, -2, 1,
                        1, 1, -4, 8, -3, -2, -4, 1,
                        1, 0, 24, 8, -3, -2, 0,
                        0,
                        1, 0, 24, 8, -3, -2, 0)
                + "; adoptFrames() = 1; digest() = "
                + Edges.sum(4, 1, 2, 8, 0, 1,
                        1, 0, -4, 8, -3, -2, 1,
                        1, 1, -4, 8, -3, -2, -4, 1,
                        1, 3, -4, 8, -3, -2, -4, 8, -3, 1,
                        1, 0, -4, 8, -3, -2, 1,
                        1, 1, -4, 8, -3, -2, -4, 1,
                        1, 0, 24, 8, -3, -2, 0,
                        0,
                        1, 0, 24, 8, -3, -2, 0)
                + "; emit(30, 0) = 8; digest() = " + Edges.sum(4, 1, 2, 9, 0, 1, 0, 0, 0, 0, 0, 0, 0, 0, 0));
        Edges.edge("25", quote).due("declareMethod(2, 1, -1) = 0; begin(0, 0, 0) = 0; emit(30, 0) = 0; infer() = 0; digest() = "
                + Edges.sum(3, 0, 1, 1, 0, 0, 1, 0, 0));
    }

    /** A hundred frames with twelve local variables and up to twelve stack slots: far more than 64 bits hold. */
    private static void digestWraps() {
        Run run = Edges.edge("25", "A number d starts with 37; for each of the following numbers x, d becomes d * 31 + x, which wraps"
                + " around as a 64-bit integer").due("declareMethod(2, 1, -1) = 0; begin(0, 12, 12) = 0");
        long d = 37;
        for (long x : new long[] {3, 0, 1, 100, 0, 0}) {
            d = d * 31 + x;
        }
        for (int index = 0; index < 100; index++) {
            int height = Math.min(index, 12);
            run.code(index < 12 ? 3 : index < 99 ? 0 : 30, 0);
            d = d * 31 + 1;
            d = d * 31 + height;
            for (int local = 0; local < 12; local++) {
                d = d * 31 - 2;
            }
            for (int slot = 0; slot < height; slot++) {
                d = d * 31 - 1;
            }
            d = d * 31;
        }
        run.due("infer() = 0; digest() = " + d + "; check() = 0; digest() = " + d);
    }
}
