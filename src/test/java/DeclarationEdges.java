/** Edges of section 2 (declarations) and of the promises 2 to 5. */
final class DeclarationEdges {
    private static final int MIN = Edges.MIN;
    private static final int MAX = Edges.MAX;

    /** A 3, the interface I 4, B 5 below A. */
    private static final String BASES =
            "declareClass(2, false) = 3; declareClass(2, true) = 4; declareClass(3, false) = 5;";

    private DeclarationEdges() {
    }

    static void run() {
        classes();
        fullClasses();
        fields();
        parameters();
        methodArguments();
        methodNumbers();
        pendingParameters();
        codesAndHandlers();
    }

    private static Run edge(String promises, String quote) {
        return Edges.edge(promises, quote);
    }

    // ---- classes

    private static void classes() {
        edge("2", "Declares a class or an interface").due("declareClass(2, false) = 3; declareClass(2, true) = 4;"
                + "declareField(3, 0) = 0; declareField(4, 0) = IAE; isAssignable(1, 24) = false; isAssignable(1, 32) = true");
        edge("2", "Returns its base").due("declareClass(2, true) = 3; declareClass(0, false) = IAE;"
                + "declareClass(2, false) = 4; declareClass(4, true) = IAE; declareClass(4, false) = 5");
        Run bases = edge("2", "Throws IllegalArgumentException if superclass is not a class").due(BASES);
        for (int base : new int[] {-1, 0, 1, 4, 6, 7, 19, 20, MIN, MAX}) {
            bases.due("declareClass(" + base + ", false) = IAE; declareClass(" + base + ", true) = IAE");
        }
        bases.due("digest() = " + Edges.sum(6, 0, 0, 0, 0, 0) + "; declareClass(5, false) = 6; declareClass(6, false) = 7");
        edge("2", "or it is not Object and isInterface is true").due(BASES + "declareClass(3, true) = IAE;"
                + "declareClass(5, true) = IAE; declareClass(2, true) = 6; declareClass(3, false) = 7");
    }

    private static void fullClasses() {
        Run run = edge("2", "Throws IllegalStateException if there are 20 bases");
        for (int base = 3; base < 19; base++) {
            run.due("declareClass(" + (base - 1) + ", false) = " + base);
        }
        run.due("digest() = " + Edges.sum(19, 0, 0, 0, 0, 0) + "; declareClass(2, true) = 19; declareClass(2, true) = ISE;"
                + "declareClass(2, false) = ISE; declareClass(18, false) = ISE; digest() = "
                + Edges.sum(20, 0, 0, 0, 0, 0) + "; isAssignable(152, 16) = true; isAssignable(160, 16) = IAE");
        // base 20 is none of the 20 bases in any call
        run.due("declareField(20, 0) = IAE; declareField(18, 160) = IAE; declareField(18, 156) = 0; parameter(160) = IAE;"
                + "declareMethod(20, 0, -1) = IAE; declareMethod(20, 1, -1) = IAE; declareMethod(20, 2, -1) = IAE;"
                + "declareMethod(2, 1, 160) = IAE; declareMethod(19, 0, 156) = 0; declareMethod(2, 1, -1) = 1; join(16, 160) = IAE;"
                + "pushLocal(160) = IAE; pushStack(160) = IAE; begin(1, 1, 1) = 0; addHandler(0, 1, 0, 20) = IAE;"
                + "addHandler(0, 1, 0, 19) = IAE; addHandler(0, 1, 0, 18) = 0");
    }

    // ---- fields

    private static void fields() {
        edge("3", "Declares a field").due(BASES + "declareField(3, 8) = 0; digest() = " + Edges.sum(6, 1, 0, 0, 0, 0));
        edge("3", "Returns the number of the field").due(BASES + "declareField(5, 0) = 0; declareField(4, 0) = IAE;"
                + "declareField(5, 0) = 1; declareField(2, 44) = 2");
        Run wrong = edge("3", "Throws IllegalArgumentException if owner is not a class, or type is not a type").due(BASES);
        for (int owner : new int[] {-1, 0, 1, 4, 6, 19, 20, MIN, MAX}) {
            wrong.due("declareField(" + owner + ", 0) = IAE");
        }
        for (int type : new int[] {-1, -2, -4, -10, 5, 7, 13, 15, 21, 45, 48, 160, MIN, MAX}) {
            wrong.due("declareField(3, " + type + ") = IAE");
        }
        wrong.due("digest() = " + Edges.sum(6, 0, 0, 0, 0, 0) + "; declareField(2, 0) = 0; declareField(5, 44) = 1;"
                + "declareField(3, 4) = 2; declareField(3, 36) = 3");
        Run full = edge("3", "Throws IllegalStateException if there are 30 fields").due(BASES);
        for (int field = 0; field < 30; field++) {
            full.due("declareField(" + (field % 2 == 0 ? 2 : 5) + ", " + (field % 5) + ") = " + field);
        }
        full.due("declareField(2, 0) = ISE; declareField(5, 44) = ISE; digest() = " + Edges.sum(6, 30, 0, 0, 0, 0));
        edge("3, 16", "A field has an owner (a class) and a type").due(BASES + "declareField(5, 8) = 0;"
                + "declareMethod(2, 1, -1) = 0; begin(0, 2, 0) = 0").code(3, 0, 44, 40, 32, 0, 11, 0, 30, 0)
                .due("infer() = 0; stackSlot(3, 0) = 8; stackSlot(3, 1) = -3; begin(0, 2, 0) = 0")
                .code(3, 0, 44, 24, 32, 0, 11, 0, 30, 0).due("infer() = 4; errorPosition() = 2");
        Run last = edge("3, 5, 16", "There are at most 30 fields and at most 30 methods, numbered from 0");
        last.make("declareField(2, 0);".repeat(29) + "declareField(2, 8);" + "declareMethod(2, 1, 0);".repeat(29)
                + "declareMethod(2, 1, 8);");
        last.due("declareField(2, 0) = ISE; declareMethod(2, 1, 0) = ISE; begin(30, 2, 0) = IOOBE; begin(29, 4, 0) = 0")
                .code(3, 0, 32, 29, 37, 29, 17, 0, 28, 0).due("infer() = 0; check() = 0; begin(0, 4, 0) = 0")
                .code(3, 0, 32, 0, 37, 0, 16, 0, 27, 0).due("infer() = 0; begin(0, 4, 0) = 0; emit(32, 30) = 0; infer() = 1;"
                + "begin(0, 4, 0) = 0; emit(37, 30) = 0; infer() = 1");
    }

    // ---- parameters and methods

    private static void parameters() {
        edge("4", "Adds a parameter to the list of pending parameters, which is empty at first").due("parameter(0) = 1;"
                + "parameter(16) = 2; declareMethod(2, 1, -1) = 0; begin(0, 0, 2) = 2; emit(30, 0) = 0; infer() = 0;"
                + "localSlot(0, 0) = 0; localSlot(0, 1) = 16");
        edge("4", "Returns the number of slots of all pending parameters").due("parameter(8) = 2; parameter(0) = 3;"
                + "parameter(9) = 4; parameter(8) = 6; declareMethod(2, 1, -1) = 0; parameter(8) = 2");
        Run wrong = edge("4", "Throws IllegalArgumentException if type is not a type").due(BASES + "parameter(0) = 1");
        for (int type : new int[] {-1, -2, -3, -4, -10, 5, 7, 15, 45, 48, 160, MIN, MAX}) {
            wrong.due("parameter(" + type + ") = IAE");
        }
        wrong.due("parameter(44) = 2; parameter(4) = 3; parameter(12) = 4; declareMethod(2, 1, -1) = 0; begin(0, 0, 0) = 4");
        edge("4", "Throws IllegalStateException if there would be more than 6 slots").due("parameter(0) = 1; parameter(0) = 2;"
                + "parameter(0) = 3; parameter(0) = 4; parameter(8) = 6; parameter(0) = ISE; parameter(8) = ISE;"
                + "declareMethod(2, 1, -1) = 0; begin(0, 0, 6) = 6");
        edge("4", "Throws IllegalStateException if there would be more than 6 slots").due("parameter(8) = 2; parameter(8) = 4;"
                + "parameter(0) = 5; parameter(8) = ISE; parameter(9) = 6; parameter(16) = ISE; parameter(8) = ISE;"
                + "declareMethod(2, 0, -1) = 0; begin(0, 0, 7) = 7; emit(30, 0) = 0; infer() = 0; localSlot(0, 6) = 9");
        edge("4", "Throws IllegalStateException if there would be more than 6 slots").due("parameter(8) = 2; parameter(8) = 4;"
                + "parameter(8) = 6; parameter(8) = ISE; parameter(0) = ISE");
    }

    private static void methodArguments() {
        String quote = "Throws IllegalArgumentException if owner is not a class (or, for an instance method, an interface),"
                + " kind is not 0 to 2, result is neither a type nor VOID, or it is a constructor and result is not VOID";
        Run owners = edge("5", quote).due(BASES);
        for (int owner : new int[] {-1, 0, 1, 6, 19, 20, MIN, MAX}) {
            for (int kind = 0; kind <= 2; kind++) {
                owners.due("declareMethod(" + owner + ", " + kind + ", -1) = IAE");
            }
        }
        owners.due("declareMethod(4, 1, -1) = IAE; declareMethod(4, 2, -1) = IAE; declareMethod(4, 0, -1) = 0;"
                + "declareMethod(2, 0, -1) = 1; declareMethod(2, 1, -1) = 2; declareMethod(2, 2, -1) = 3;"
                + "declareMethod(5, 0, -1) = 4; declareMethod(5, 1, -1) = 5; declareMethod(5, 2, -1) = 6");
        Run kinds = edge("5", quote).due(BASES);
        for (int kind : new int[] {-1, 3, MIN, MAX}) {
            kinds.due("declareMethod(3, " + kind + ", -1) = IAE; declareMethod(4, " + kind + ", -1) = IAE");
        }
        Run results = edge("5", quote).due(BASES);
        for (int result : new int[] {-2, -3, -4, -10, 5, 7, 15, 45, 48, 160, MIN, MAX}) {
            results.due("declareMethod(3, 0, " + result + ") = IAE; declareMethod(3, 1, " + result + ") = IAE;"
                    + "declareMethod(3, 2, " + result + ") = IAE");
        }
        results.due("declareMethod(3, 0, -1) = 0; declareMethod(3, 1, 0) = 1; declareMethod(3, 1, 44) = 2;"
                + "declareMethod(4, 0, 12) = 3; declareMethod(3, 0, 8) = 4");
        Run constructors = edge("5", quote).due(BASES);
        for (int result : new int[] {0, 8, 16, 24, 1}) {
            constructors.due("declareMethod(3, 2, " + result + ") = IAE");
        }
        constructors.due("declareMethod(3, 2, -1) = 0");
        edge("5", "A method has an owner (a class; for an instance method also an interface), a kind (0 INSTANCE, 1 STATIC,"
                + " 2 CONSTRUCTOR), parameter types (at most 6 slots together) and a result (a type, or VOID = -1; a"
                + " constructor has the result VOID)").due(BASES + "declareMethod(3, 0, -1) = 0; declareMethod(3, 1, -1) = 1;"
                + "declareMethod(3, 2, -1) = 2; parameter(8) = 2; parameter(8) = 4; parameter(8) = 6; declareMethod(4, 0, 9) = 3;"
                + "begin(0, 0, 0) = 1; begin(1, 0, 0) = 0; begin(2, 0, 0) = 1; begin(3, 0, 0) = IAE; begin(1, 7, 0) = 0")
                .code(36, 0, 30, 0).due("infer() = 3; begin(1, 7, 0) = 0").code(37, 1, 30, 0)
                .due("infer() = 0; begin(1, 7, 0) = 0").code(34, 3, 35, 2, 30, 0).due("infer() = 0; begin(1, 7, 0) = 0")
                .code(3, 0, 2, 0, 2, 0, 2, 0, 36, 3, 43, 0, 10, 0, 30, 0).due("infer() = 0; stackHeight(4) = 7;"
                + "stackHeight(5) = 1; stackSlot(5, 0) = 9");
    }

    private static void methodNumbers() {
        edge("5", "Declares a method with the pending parameters").due(BASES + "parameter(24) = 1; parameter(0) = 2;"
                + "declareMethod(3, 1, -1) = 0; declareMethod(3, 1, -1) = 1; begin(0, 0, 2) = 2; emit(30, 0) = 0;"
                + "infer() = 0; localSlot(0, 0) = 24; localSlot(0, 1) = 0; begin(1, 0, 2) = 0");
        edge("5", "Returns the number of the method").due(BASES + "declareMethod(4, 0, 0) = 0;"
                + "declareMethod(4, 1, 0) = IAE; declareMethod(3, 1, 0) = 1; declareMethod(2, 2, -1) = 2; digest() = "
                + Edges.sum(6, 0, 3, 0, 0, 0));
        Run full = edge("5", "Throws IllegalStateException if there are 30 methods").due(BASES);
        for (int method = 0; method < 30; method++) {
            full.due("declareMethod(" + (method % 3 == 0 ? 4 : 3) + ", " + method % 3 + ", -1) = " + method);
        }
        full.due("declareMethod(2, 1, -1) = ISE; declareMethod(4, 0, 0) = ISE; declareMethod(3, 2, -1) = ISE; digest() = "
                + Edges.sum(6, 0, 30, 0, 0, 0) + "; begin(29, 0, 0) = 1; begin(30, 0, 0) = IOOBE");
    }

    private static void pendingParameters() {
        String quote = "There are no pending parameters afterwards in any case";
        edge("5", quote).due(BASES + "parameter(8) = 2; declareMethod(3, 1, -1) = 0; parameter(0) = 1;"
                + "declareMethod(3, 0, -1) = 1; declareMethod(3, 1, -1) = 2; begin(0, 0, 0) = 2; begin(1, 0, 0) = 2;"
                + "begin(2, 0, 0) = 0");
        for (String refused : new String[] {"6, 0, -1", "4, 1, -1", "3, 3, -1", "3, -1, -1", "3, 0, -2", "3, 2, 0"}) {
            edge("5", quote).due(BASES + "parameter(8) = 2; parameter(0) = 3; declareMethod(" + refused + ") = IAE;"
                    + "parameter(16) = 1; declareMethod(" + refused + ") = IAE; declareMethod(3, 1, -1) = 0; begin(0, 0, 0) = 0");
        }
        edge("5", quote).make("declareMethod(2, 1, 0);".repeat(30)).due("parameter(8) = 2; parameter(8) = 4;"
                + "parameter(8) = 6; declareMethod(2, 1, 0) = ISE; parameter(8) = 2; declareMethod(0, 1, 0) = IAE;"
                + "parameter(0) = 1");
        edge("5", "A method that throws an exception changes nothing, except that declareMethod and declareFrame empty the"
                + " pending lists").due(BASES + "pushLocal(0) = 1; pushStack(0) = 1; parameter(0) = 1;"
                + "declareMethod(6, 0, -1) = IAE; pushLocal(0) = 2; pushStack(0) = 2; parameter(0) = 1; parameter(99) = IAE;"
                + "declareField(9, 9) = IAE; declareClass(9, true) = IAE; begin(0, 1, 1) = IOOBE; parameter(0) = 2");
    }

    // ---- code and handlers, as section 2 tells them

    private static void codesAndHandlers() {
        Run full = edge("8, 9", "The code is a sequence of instructions with indices from 0, at most 100; it belongs to a"
                + " method whose owner is a class, and has a maximum stack height and a number of local variables").due(
                BASES + "declareMethod(4, 0, -1) = 0; declareMethod(3, 1, -1) = 1; begin(0, 1, 1) = IAE; begin(1, 2, 1) = 0");
        for (int index = 0; index < 98; index++) {
            full.due("emit(0, 0) = " + index);
        }
        full.due("emit(7, 0) = 98; emit(30, 0) = 99; emit(30, 0) = ISE; infer() = 3; errorPosition() = 98; visits() = 99;"
                + "check() = 3; errorPosition() = 98; visits() = 99");
        edge("8, 9, 10, 14", "begin starts a new code; then instructions, handlers and declared frames are added").due(
                "emit(30, 0) = ISE; addHandler(0, 1, 0, 2) = ISE; declareFrame(0, false) = IOOBE;"
                + "declareMethod(2, 1, -1) = 0; emit(30, 0) = ISE; begin(0, 1, 1) = 0; declareFrame(0, false) = IOOBE;"
                + "addHandler(0, 1, 0, 2) = 0; emit(30, 0) = 0; declareFrame(0, false) = 1; infer() = 8; emit(30, 0) = 1;"
                + "declareFrame(1, false) = 2; addHandler(1, 2, 0, 2) = 1");
        edge("10, 16", "A handler has a range (the indices from start to end - 1), a target (an index) and a class that it"
                + " catches").due(BASES + "declareMethod(3, 1, -1) = 0; begin(0, 1, 0) = 0").code(22, 1, 22, 2, 22, 3, 30, 0,
                31, 0).due("addHandler(1, 3, 4, 5) = 0; infer() = 0; stackSlot(4, 0) = 40; addHandler(0, 3, 4, 3) = 1; infer() = 0;"
                + "stackSlot(4, 0) = 24; begin(0, 1, 0) = 0").code(1, 0, 22, 2, 10, 0, 30, 0, 31, 0)
                .due("addHandler(3, 4, 4, 5) = 0; infer() = 0; hasFrame(4) = true; begin(0, 1, 0) = 0")
                .code(22, 3, 0, 0, 22, 3, 30, 0, 31, 0).due("addHandler(1, 3, 4, 5) = 0; infer() = 0; hasFrame(4) = false");
        Run handlers = edge("10", "There are at most 10 handlers, numbered from 0").due("declareMethod(2, 1, -1) = 0;"
                + "begin(0, 1, 0) = 0; emit(30, 0) = 0; emit(31, 0) = 1");
        for (int handler = 0; handler < 10; handler++) {
            handlers.due("addHandler(0, 1, 1, 2) = " + handler);
        }
        handlers.due("addHandler(0, 1, 1, 2) = ISE; infer() = 0; visits() = 2; digest() = "
                + Edges.sum(3, 0, 1, 2, 10, 0, 1, 0, 0, 1, 1, 16, 0));
    }
}
