/**
 * The boundary cases that the document names, sentence by sentence. Each test names its promise
 * and quotes its sentence; a sentence without a test is a failure.
 */
final class EdgesTest {
    private EdgesTest() {
    }

    public static void main(String[] args) {
        Edges.readDocument();
        TypeEdges.run();
        DeclarationEdges.run();
        CodeEdges.run();
        FrameEdges.run();
        ExaminationEdges.run();
        InstructionEdges.run();
        ProcessEdges.run();
        InferenceEdges.run();
        CheckEdges.run();
        QueryEdges.run();
        RefusalEdges.run();
        Edges.requireAll();
        Run.end();
    }
}
