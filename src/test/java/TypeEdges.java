/** Edges of section 1 (types and slot values) and of the promises 1, 6 and 7. */
final class TypeEdges {
    private static final int MIN = Edges.MIN;
    private static final int MAX = Edges.MAX;

    /** A 3, B 4 and C 5 below A, the interfaces I 6 and J 7, D 8 below B. */
    private static final String BASES = "declareClass(2, false) = 3; declareClass(3, false) = 4;"
            + "declareClass(3, false) = 5; declareClass(2, true) = 6; declareClass(2, true) = 7;"
            + "declareClass(4, false) = 8;";

    private TypeEdges() {
    }

    static void run() {
        newObject();
        bases();
        typeNumbers();
        arrayTypes();
        slotCounts();
        assignableTypes();
        joinedTypes();
        slotNumbers();
        references();
        assignableSlots();
        joinedSlots();
    }

    private static Run edge(String promises, String quote) {
        return Edges.edge(promises, quote);
    }

    private static void newObject() {
        edge("1", "Creates a verifier with the bases INT, LONG and Object, without fields, methods and code").due(
                "digest() = " + Edges.sum(3, 0, 0, 0, 0, 0) + "; instructionCount() = 0; begin(0, 0, 0) = IOOBE;"
                + "emit(0, 0) = ISE; addHandler(0, 1, 0, 2) = ISE; declareFrame(0, false) = IOOBE; infer() = ISE;"
                + "check() = ISE; adoptFrames() = ISE; hasFrame(0) = IOOBE; stackHeight(0) = IOOBE;"
                + "stackSlot(0, 0) = IOOBE; localSlot(0, 0) = IOOBE; isMarked(0) = IOOBE; errorPosition() = -1;"
                + "visits() = 0; join(0, 8) = -2; join(16, 16) = 16; join(24, 16) = IAE; addHandler(0, 1, 0, 3) = IAE;"
                + "parameter(24) = IAE; parameter(16) = 1; pushLocal(24) = IAE; pushLocal(16) = 1; pushStack(16) = 1;"
                + "declareField(3, 0) = IAE; declareField(2, 0) = 0; declareClass(2, false) = 3;"
                + "declareMethod(2, 1, -1) = 0; begin(0, 0, 0) = 1");
    }

    private static void bases() {
        edge("1, 2", "Bases are numbered: 0 is INT, 1 is LONG, 2 is the class Object").due("parameter(0) = 1;"
                + "parameter(8) = 3; parameter(16) = 4; declareField(0, 16) = IAE; declareField(1, 16) = IAE;"
                + "declareField(2, 16) = 0; declareClass(0, false) = IAE; declareClass(1, false) = IAE;"
                + "declareClass(2, false) = 3");
        edge("2", "further classes and interfaces get the next numbers when they are declared").due(
                "declareClass(2, true) = 3; declareClass(2, false) = 4; declareClass(4, false) = 5;"
                + "declareClass(2, true) = 6; addHandler(0, 1, 0, 3) = IAE; addHandler(0, 1, 0, 4) = ISE;"
                + "addHandler(0, 1, 0, 5) = ISE; addHandler(0, 1, 0, 6) = IAE; addHandler(0, 1, 0, 7) = IAE");
        Run full = edge("2", "There are at most 20 bases");
        for (int base = 3; base < 20; base++) {
            full.due("declareClass(2, " + (base % 2 == 0) + ") = " + base);
        }
        full.due("declareClass(2, false) = ISE; declareClass(2, true) = ISE; declareField(19, 156) = 0;"
                + "declareField(20, 0) = IAE; declareField(19, 160) = IAE");
        // no base has the number of Object's superclass, so nothing is taken for its constructor
        edge("16, 17", "Every class but Object has a superclass").due("declareClass(2, false) = 3;"
                + "declareMethod(2, 2, -1) = 0; declareMethod(3, 2, -1) = 1; begin(0, 1, 1) = 1")
                .code(30, 0, 35, 1, 30, 0).due("pushStack(-4) = 1; declareFrame(1, false) = 1; check() = 4;"
                + "errorPosition() = 1; begin(1, 1, 1) = 1").code(6, 0, 35, 0, 30, 0).due("infer() = 0; check() = 0");
    }

    private static void typeNumbers() {
        String quote = "The number of a type is 8 * base + dimensions, with 0 to 4 dimensions";
        for (int base = 0; base <= 3; base++) {
            for (int dimensions = 0; dimensions <= 7; dimensions++) {
                isType(8 * base + dimensions, base <= 2 && dimensions <= 4, "");
            }
        }
        for (int value : new int[] {-1, -2, -8, MIN, MAX, MAX - 7, 1 << 30}) {
            isType(value, false, "");
        }
        StringBuilder all = new StringBuilder();
        for (int base = 3; base < 20; base++) {
            all.append("declareClass(2, false) = ").append(base).append(";");
        }
        for (int value = 150; value <= 168; value++) {
            isType(value, value >= 152 && value <= 156, all.toString());
        }
        Run last = edge("6, 7", quote).due(all.toString());
        for (int value = 152; value <= 156; value++) {
            last.due("isAssignable(" + value + ", 16) = true; join(" + value + ", " + value + ") = " + value);
        }
        last.due("isAssignable(157, 16) = IAE; isAssignable(160, 16) = IAE; join(16, 160) = IAE; join(151, 16) = IAE");
    }

    /** Asks each call that wants a type. */
    private static void isType(int value, boolean isDue, String before) {
        String quote = "The number of a type is 8 * base + dimensions, with 0 to 4 dimensions";
        edge("3, 4, 5", quote).due(before).due("declareField(2, " + value + ") = " + (isDue ? "0" : "IAE")
                + "; parameter(" + value + ") = " + (!isDue ? "IAE" : value == 8 ? "2" : "1")
                + "; declareMethod(2, 1, " + value + ") = " + (isDue || value == -1 ? "0" : "IAE"));
        if (value >= 0) {
            edge("6, 7, 12, 13", quote).due(before).due("isAssignable(" + value + ", -2) = " + (isDue ? "true" : "IAE")
                    + "; isAssignable(-2, " + value + ") = " + (isDue ? "false" : "IAE")
                    + "; join(" + value + ", " + value + ") = " + (isDue ? value : "IAE")
                    + "; pushLocal(" + value + ") = " + (isDue ? "1" : "IAE")
                    + "; pushStack(" + value + ") = " + (isDue ? "1" : "IAE"));
        }
    }

    private static void arrayTypes() {
        // A[][][] is made an element type, and the array of it taken apart again
        edge("16", "with 0 dimensions it is the base itself, with more it is an array type; its element type has one"
                + " dimension less").due(BASES + "declareMethod(2, 1, -1) = 0; begin(0, 2, 0) = 0")
                .code(1, 0, 38, 27, 1, 0, 41, 0, 1, 0, 41, 0, 1, 0, 41, 0, 1, 0, 41, 0, 10, 0, 30, 0)
                .due("infer() = 0; stackSlot(2, 0) = 28; stackSlot(4, 0) = 27; stackSlot(6, 0) = 26;"
                + "stackSlot(8, 0) = 25; stackSlot(10, 0) = 24; begin(0, 2, 0) = 0")
                .code(1, 0, 38, 24, 1, 0, 41, 0, 1, 0, 41, 0).due("infer() = 4; errorPosition() = 5; check() = 4;"
                + "errorPosition() = 5; begin(0, 2, 0) = 0").code(1, 0, 38, 0, 43, 0, 38, 1, 1, 0, 41, 0, 1, 0, 41, 0)
                .due("infer() = 4; errorPosition() = 7");
        edge("6", "INT and LONG without dimensions are the primitive types; all others are reference types").due(
                "isAssignable(-1, 0) = false; isAssignable(-1, 8) = false; isAssignable(-1, 1) = true;"
                + "isAssignable(-1, 4) = true; isAssignable(-1, 9) = true; isAssignable(-1, 12) = true;"
                + "isAssignable(-1, 16) = true; isAssignable(-1, 20) = true; isAssignable(1, 16) = true;"
                + "isAssignable(9, 16) = true; isAssignable(0, 16) = false; isAssignable(8, 16) = false");
    }

    private static void slotCounts() {
        edge("4, 5", "A LONG occupies two slots, a value of any other type one slot").due("parameter(8) = 2;"
                + "parameter(9) = 3; parameter(0) = 4; parameter(12) = 5; parameter(16) = 6; declareMethod(2, 1, -1) = 0;"
                + "begin(0, 2, 12) = 6; emit(30, 0) = 0; infer() = 0; localSlot(0, 0) = 8; localSlot(0, 1) = -3;"
                + "localSlot(0, 2) = 9; localSlot(0, 3) = 0; localSlot(0, 4) = 12; localSlot(0, 5) = 16;"
                + "localSlot(0, 6) = -2; begin(0, 2, 12) = 6").code(5, 0, 10, 0)
                .due("infer() = 4; begin(0, 2, 12) = 6").code(5, 0, 19, 0, 18, 0, 11, 0, 30, 0)
                .due("infer() = 0; stackHeight(1) = 2; stackHeight(2) = 1; stackHeight(3) = 2; stackHeight(4) = 0");
    }

    // ---- assignability and join of reference types

    private static void assignable(Run run, int from, int to, boolean isDue) {
        run.due("isAssignable(" + from + ", " + to + ") = " + isDue);
    }

    private static void assignableTypes() {
        Run same = edge("6", "S is assignable to T if S and T are the same").due(BASES);
        for (int type : new int[] {1, 4, 9, 12, 16, 20, 24, 28, 48, 52, 64, 68}) {
            assignable(same, type, type, true);
        }
        Run top = edge("6", "or T is Object or an interface (without dimensions)").due(BASES);
        for (int type : new int[] {1, 4, 9, 12, 17, 20, 24, 28, 48, 49, 56, 64}) {
            assignable(top, type, 16, true);
            assignable(top, type, 48, true);
            assignable(top, type, 56, true);
        }
        for (int type : new int[] {1, 9, 16, 24, 48}) {
            assignable(top, type, 49, false);
            assignable(top, type, 17, false);
        }
        assignable(top, 16, 48, true);
        assignable(top, 48, 16, true);
        assignable(top, 16, 24, false);
        Run chain = edge("6", "or S and T are classes, and T is the superclass of S, or its superclass, and so on");
        for (int base = 3; base < 20; base++) {
            chain.due("declareClass(" + (base - 1) + ", false) = " + base);
        }
        for (int base = 2; base < 20; base++) {
            assignable(chain, 152, 8 * base, true);
            assignable(chain, 8 * base, 152, base == 19);
            assignable(chain, 8 * base, 24, base >= 3);
        }
        Run side = edge("6", "or S and T are classes, and T is the superclass of S, or its superclass, and so on").due(BASES);
        assignable(side, 32, 40, false);
        assignable(side, 40, 32, false);
        assignable(side, 64, 32, true);
        assignable(side, 64, 40, false);
        assignable(side, 48, 24, false);
        assignable(side, 48, 56, true);
        Run array = edge("6", "or S and T are array types whose element types are both reference types, and that of S is"
                + " assignable to that of T").due(BASES);
        int[][] right = {{33, 25}, {36, 28}, {2, 17}, {3, 18}, {4, 19}, {2, 49}, {10, 17}, {36, 20}, {36, 19}, {36, 17}, {36, 49},
            {17, 49}, {49, 17}, {25, 17}, {25, 49}};
        int[][] wrong = {{25, 33}, {28, 36}, {1, 9}, {9, 1}, {1, 17}, {1, 49}, {2, 18}, {2, 1}, {1, 2}, {2, 10}, {25, 26},
            {26, 25}, {17, 25}, {49, 25}, {4, 20}, {17, 18}, {17, 1}, {17, 2}, {33, 24}};
        for (int[] pair : right) {
            assignable(array, pair[0], pair[1], true);
        }
        for (int[] pair : wrong) {
            assignable(array, pair[0], pair[1], false);
        }
    }

    private static void joined(Run run, int first, int second, int due) {
        run.due("join(" + first + ", " + second + ") = " + due + "; join(" + second + ", " + first + ") = " + due);
    }

    private static void joinedTypes() {
        Run same = edge("7", "The join of two reference types S and T: if they are the same, this type").due(BASES);
        for (int type : new int[] {1, 4, 9, 12, 16, 20, 24, 28, 48, 49, 52, 56}) {
            joined(same, type, type, type);
        }
        Run array = edge("7", "If both have dimensions and both element types are reference types, the array type whose"
                + " element type is the join of the element types").due(BASES);
        int[][] arrays = {{33, 41, 25}, {36, 44, 28}, {65, 41, 25}, {33, 25, 25}, {49, 57, 17}, {49, 33, 17}, {2, 10, 17},
            {3, 11, 18}, {4, 12, 19}, {2, 25, 17}, {2, 34, 17}, {3, 34, 18}, {26, 25, 17}, {28, 25, 17}, {28, 18, 18},
            {2, 3, 17}, {52, 60, 20}, {17, 25, 17}};
        for (int[] row : arrays) {
            joined(array, row[0], row[1], row[2]);
        }
        Run classes = edge("7", "If both are classes (not interfaces) without dimensions, the first class in the sequence"
                + " S, its superclass, and so on, to which T is assignable").due(BASES);
        int[][] rows = {{32, 40, 24}, {64, 40, 24}, {64, 32, 32}, {64, 24, 24}, {64, 16, 16}, {24, 16, 16}, {32, 24, 24}};
        for (int[] row : rows) {
            joined(classes, row[0], row[1], row[2]);
        }
        Run chain = edge("7", "the first class in the sequence S, its superclass, and so on, to which T is assignable")
                .due("declareClass(2, false) = 3");
        for (int base = 4; base < 18; base++) {
            chain.due("declareClass(" + (base - 1) + ", false) = " + base);
        }
        chain.due("declareClass(3, false) = 18; declareClass(2, false) = 19");
        joined(chain, 8 * 17, 8 * 18, 24);
        joined(chain, 8 * 17, 8 * 19, 16);
        joined(chain, 8 * 17, 24, 24);
        joined(chain, 8 * 17, 8 * 16, 8 * 16);
        joined(chain, 8 * 17 + 4, 8 * 18 + 4, 28);
        Run other = edge("7", "Otherwise Object").due(BASES);
        int[][] far = {{48, 56}, {48, 24}, {48, 16}, {1, 9}, {1, 2}, {1, 25}, {9, 17}, {1, 16}, {1, 24}, {1, 48}, {25, 24},
            {25, 48}, {28, 32}, {9, 12}};
        for (int[] pair : far) {
            joined(other, pair[0], pair[1], 16);
        }
    }

    // ---- slot values

    private static void slotNumbers() {
        String quote = "A slot of a frame contains one of the following, given by a number: a type (0 or more; LONG in the"
                + " first slot of a LONG); NULL = -1; TOP = -2, which cannot be used; HIGH = -3, the second slot of a LONG;"
                + " THIS = -4, the object of a constructor that is not initialized yet; -10 - i, an object created by the"
                + " NEW at index i that is not initialized yet";
        int[] right = {0, 4, 8, 12, 16, 20, -1, -2, -3, -4, -10, -11, -108, -109};
        int[] wrong = {5, 7, 13, 21, 23, 24, -5, -6, -8, -9, -110, -111, -200, MIN, MAX, MIN + 1};
        for (int value : right) {
            edge("6", quote).due("isAssignable(" + value + ", " + value + ") = true; isAssignable(" + value + ", -2) = true");
            edge("7", quote).due("join(" + value + ", " + value + ") = " + value);
            edge("12", quote).due("pushLocal(" + value + ") = 1");
            edge("13", quote).due("pushStack(" + value + ") = 1");
        }
        for (int value : wrong) {
            edge("6", "Throws IllegalArgumentException if one of them is not a slot value (a type, -1 to -4, or -10 to -109)")
                    .due("isAssignable(" + value + ", -2) = IAE; isAssignable(16, " + value + ") = IAE; isAssignable("
                    + value + ", " + value + ") = IAE; isAssignable(16, 16) = true");
            edge("7", "Throws IllegalArgumentException if one of them is not a slot value").due("join(" + value
                    + ", 16) = IAE; join(16, " + value + ") = IAE; join(" + value + ", " + value + ") = IAE;"
                    + "join(" + value + ", -2) = IAE; join(16, 16) = 16");
        }
    }

    /** IFNULL takes any reference, ATHROW a reference. */
    private static void references() {
        String quote = "\"Reference\" means a reference type or NULL; \"any reference\" also THIS and the values -10 - i";
        String title = Edges.title("16, 17", quote);
        for (String value : new String[] {"-1", "1", "4", "9", "12", "16", "20", "24", "40", "44"}) {
            Steps.step(title, 0, " | " + value, 25, 2, " |");
            Steps.step(title, 0, " | " + value, 31, 0, " |");
        }
        for (String value : new String[] {"-4", "-10", "-109"}) {
            Steps.step(title, 0, " | " + value, 25, 2, " |");
            Steps.step(title, 0, " | " + value, 31, 0, "error 4");
        }
        for (String value : new String[] {"0", "8 -3", "-2"}) {
            Steps.step(title, 0, " | " + value, 25, 2, "error 4");
            Steps.step(title, 0, " | " + value, 31, 0, "error 4");
        }
    }

    private static void assignableSlots() {
        int[] simple = {0, 8, -3, -4, -10, -11, -109};
        Run same = edge("6", "A slot value v is assignable to w if they are the same").due(BASES);
        for (int from : simple) {
            for (int to : simple) {
                assignable(same, from, to, from == to);
            }
        }
        Run top = edge("6", "or w is TOP").due(BASES);
        for (int value : new int[] {0, 8, -1, -2, -3, -4, -10, -109, 1, 16, 24, 48}) {
            assignable(top, value, -2, true);
            assignable(top, -2, value, value == -2);
        }
        Run none = edge("6", "or v is NULL and w is a reference type").due(BASES);
        for (int type : new int[] {1, 4, 9, 12, 16, 20, 24, 28, 48, 52}) {
            assignable(none, -1, type, true);
            assignable(none, type, -1, false);
        }
        for (int value : simple) {
            assignable(none, -1, value, false);
            assignable(none, value, -1, false);
        }
        Run both = edge("6", "or both are reference types and v is assignable to w").due(BASES);
        assignable(both, 32, 24, true);
        assignable(both, 24, 32, false);
        for (int value : simple) {
            assignable(both, value, 16, false);
            assignable(both, 16, value, false);
            assignable(both, value, 48, false);
        }
        edge("6", "Returns whether from is assignable to to").due(BASES + "isAssignable(64, 24) = true;"
                + "isAssignable(24, 64) = false; isAssignable(-1, 64) = true; isAssignable(64, -1) = false");
    }

    private static void joinedSlots() {
        int[] simple = {0, 8, -2, -3, -4, -10, -11, -109};
        Run same = edge("7", "The join of two slot values: if they are the same, this value").due(BASES);
        for (int value : simple) {
            joined(same, value, value, value);
        }
        joined(same, -1, -1, -1);
        Run none = edge("7", "if one of them is NULL and the other one a reference type, the latter").due(BASES);
        for (int type : new int[] {1, 4, 9, 12, 16, 20, 24, 28, 48, 52}) {
            joined(none, -1, type, type);
        }
        Run both = edge("7", "if both are reference types, their join").due(BASES);
        joined(both, 32, 40, 24);
        joined(both, 1, 9, 16);
        Run other = edge("7", "otherwise TOP").due(BASES);
        for (int first : simple) {
            for (int second : simple) {
                if (first < second) {
                    joined(other, first, second, -2);
                }
            }
            joined(other, first, -1, -2);
            joined(other, first, 16, -2);
            joined(other, first, 1, -2);
            joined(other, first, 48, -2);
        }
        edge("7", "Returns their join").due(BASES + "join(64, 40) = 24; join(-1, 40) = 40; join(0, 40) = -2");
    }
}
