/** The examples of section 5, call by call as the document tells them. */
final class ExamplesTest {
    private static final String[] EXAMPLES = {
        "parameter(0) = 1; declareMethod(2, 1, 0) = 0; begin(0, 2, 1) = 1; emit(4, 0) = 0;"
            + " emit(12, 0) = 1; emit(16, 0) = 2; emit(27, 0) = 3; infer() = 0; visits() = 4;"
            + " stackHeight(2) = 2.",
        "declareClass(2, false) = 3; declareClass(3, false) = 4; declareClass(3, false) = 5;"
            + " join(32, 40) = 24; isAssignable(32, 24) = true; isAssignable(24, 32) = false;"
            + " join(33, 41) = 25; join(-1, 32) = 32; join(0, 16) = -2.",
        "declareMethod(2, 1, -1) = 0; begin(0, 1, 1) = 0; emit(10, 0) = 0; emit(30, 0) = 1;"
            + " infer() = 3; errorPosition() = 0; begin(0, 1, 1) = 0; emit(1, 0) = 0;"
            + " emit(7, 0) = 1; emit(22, 0) = 2; infer() = 0; localSlot(2, 0) = 0.",
        "declareClass(2, false) = 3; declareMethod(3, 2, -1) = 0; declareMethod(2, 2, -1) = 1;"
            + " begin(0, 1, 1) = 1; emit(6, 0) = 0; emit(35, 1) = 1; emit(30, 0) = 2;"
            + " infer() = 0; isMarked(1) = true; localSlot(2, 0) = 24."};

    private ExamplesTest() {
    }

    public static void main(String[] args) {
        for (int number = 1; number <= EXAMPLES.length; number++) {
            String script = EXAMPLES[number - 1];
            Run.same("example " + number + " of the document", fromDocument(number), script);
            new Run("example " + number).due(script.substring(0, script.length() - 1));
        }
        Run.same("one more example", fromDocument(EXAMPLES.length + 1), "none");
        Run.end();
    }

    /** The calls of an example, which begin behind the sentence that tells what it shows. */
    private static String fromDocument(int number) {
        boolean isSection = false;
        for (String line : Texts.document()) {
            isSection = line.startsWith("== ") ? line.startsWith("== 5.") : isSection;
            String text = line.trim();
            if (isSection && text.startsWith(number + ". ")) {
                return text.substring(text.indexOf(". ", 3) + 2);
            }
        }
        return "none";
    }
}
