import java.io.File;
import java.util.TreeSet;
import java.util.regex.Matcher;
import java.util.regex.Pattern;

/** What README.md says of the use of the class and of the tests is so. */
final class ReadmeTest {
    /** A call, and behind it what it answers or throws: "v.infer();  // 0: no error". */
    private static final Pattern CALL = Pattern.compile("    v\\.(\\w+\\(.*\\)); +// (-?\\w+)(: .*)?");
    private static final Pattern ROW = Pattern.compile("\\| `(\\w+)` \\| .* \\|");

    private ReadmeTest() {
    }

    public static void main(String[] args) {
        calls();
        tables();
        Run.end();
    }

    private static void calls() {
        Run run = null;
        int runs = 0;
        int found = 0;
        for (String line : Texts.readme()) {
            Matcher matcher = CALL.matcher(line);
            if (line.equals("    CodeVerifier v = new CodeVerifier();")) {
                runs++;
                run = new Run("README.md, code " + runs);
            } else if (matcher.matches() && run != null) {
                found++;
                run.due(matcher.group(1) + " = " + answer(matcher.group(2)));
            } else if (line.contains(" v.")) {
                Run.fail("README.md has a call that is not tried: " + line);
            }
        }
        Run.same("README.md has code with calls", runs >= 2 && found >= 20, true);
    }

    private static String answer(String text) {
        return text.endsWith("Exception") ? text.replaceAll("[a-z]", "") : text;
    }

    /** Each test has its row, and each row its test. */
    private static void tables() {
        TreeSet<String> rows = new TreeSet<>();
        for (String line : Texts.readme()) {
            Matcher matcher = ROW.matcher(line);
            if (matcher.matches()) {
                rows.add(matcher.group(1));
            }
        }
        TreeSet<String> tests = new TreeSet<>();
        String[] files = new File("src/test/java").list();
        for (String file : files == null ? new String[0] : files) {
            if (file.matches("\\w+(Test|Edges)\\.java") && !file.equals("Edges.java")) {
                tests.add(file.substring(0, file.length() - 5));
            }
        }
        Run.same("the tests that README.md names", rows, tests);
    }
}
