import java.io.IOException;
import java.nio.charset.StandardCharsets;
import java.nio.file.Files;
import java.nio.file.Path;
import java.util.List;

/** The texts that tests compare the class with; the tests run in the project's directory. */
final class Texts {
    private static final Path DOCUMENT = Path.of("..", "shared", "DOC.md");
    private static final Path README = Path.of("README.md");

    private Texts() {
    }

    static List<String> document() {
        return lines(DOCUMENT);
    }

    static List<String> readme() {
        return lines(README);
    }

    private static List<String> lines(Path path) {
        try {
            return Files.readAllLines(path, StandardCharsets.UTF_8);
        } catch (IOException e) {
            Run.fail(path + " can't be read: " + e);
            return List.of();
        }
    }
}
