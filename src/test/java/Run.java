import java.util.NoSuchElementException;

/**
 * A run of calls on one new object, written as in the document: "parameter(0) = 1; infer() = 0".
 * A call that throws has the answer IAE, ISE, IOOBE or NSEE. A second object, the twin, gets the
 * same calls without those that throw: so each later answer shows whether a refused call changed
 * something.
 */
final class Run {
    private static int wrong = 0;
    private static int calls = 0;

    /** What an object answers after so many calls is free. */
    private static final int MOST_CALLS = 512;

    private final String title;
    private final CodeVerifier verifier = new CodeVerifier();
    private final CodeVerifier twin = new CodeVerifier();
    private int made = 0;

    Run(String title) {
        this.title = title;
    }

    /** Ends the test with exit code 1 if an answer was wrong. */
    static void end() {
        System.out.println(calls + " calls, " + wrong + " wrong answers");
        if (wrong != 0 || calls == 0) {
            System.exit(1);
        }
    }

    static void fail(String message) {
        calls++;
        wrong++;
        System.out.println(message);
    }

    static void same(String what, Object got, Object want) {
        calls++;
        if (!want.equals(got)) {
            wrong++;
            System.out.println(what + ": got " + got + ", due is " + want);
        }
    }

    /** Makes the calls of a script; each has its due answer behind " = ". */
    Run due(String script) {
        for (String part : script.split(";")) {
            String row = part.trim();
            if (!row.isEmpty()) {
                String[] sides = row.split(" = ");
                dueCall(sides[0].trim(), sides[1].trim());
            }
        }
        return this;
    }

    /** Makes calls whose answers do not matter here, but which must not throw. */
    Run make(String script) {
        for (String part : script.split(";")) {
            String row = part.trim();
            if (!row.isEmpty() && answerOfBoth(row).endsWith("E")) {
                fail(title + ": " + row + " throws");
            }
        }
        return this;
    }

    /** Emits instructions given as op, operand, op, operand, ... */
    Run code(int... parts) {
        for (int k = 0; k < parts.length; k += 2) {
            make("emit(" + parts[k] + ", " + parts[k + 1] + ")");
        }
        return this;
    }

    Run times(int count, String script) {
        for (int k = 0; k < count; k++) {
            due(script);
        }
        return this;
    }

    private void dueCall(String call, String want) {
        String got = answerOfBoth(call);
        String due = want.equals("true") ? "1" : want.equals("false") ? "0" : want;
        calls++;
        if (!got.equals(due)) {
            wrong++;
            System.out.println(title + ": " + call + " answered " + got + ", due is " + want);
        }
    }

    private String answerOfBoth(String call) {
        int open = call.indexOf('(');
        String name = call.substring(0, open);
        String inside = call.substring(open + 1, call.length() - 1).trim();
        String[] args = inside.isEmpty() ? new String[0] : inside.split("\\s*,\\s*");
        String got = answer(verifier, name, args);
        made++;
        if (got.endsWith("E")) {
            made += 4;
            dropPending(name);
            compareWithTwin(call, visible(verifier), visible(twin));
        } else {
            compareWithTwin(call, got, answer(twin, name, args));
        }
        if (made > MOST_CALLS) {
            fail(title + ": too many calls on one object");
            made = 0;
        }
        return got;
    }

    /** The only thing that a refused call may do: so the twin is refused in the plainest way. */
    private void dropPending(String name) {
        if (name.equals("declareMethod")) {
            answer(twin, name, "-1", "0", "-1");
        } else if (name.equals("declareFrame")) {
            answer(twin, name, "-1", "false");
        }
    }

    private void compareWithTwin(String call, String got, String want) {
        if (!got.equals(want)) {
            fail(title + ": " + call + " shows that a refused call changed something: " + got + ", not " + want);
        }
    }

    private static String visible(CodeVerifier v) {
        return v.digest() + " " + v.instructionCount() + " " + v.errorPosition() + " " + v.visits();
    }

    static String answer(CodeVerifier verifier, String name, String... args) {
        try {
            return "" + Face.call(verifier, name, args);
        } catch (NoSuchElementException e) {
            return "NSEE";
        } catch (IllegalArgumentException e) {
            return e.getClass() == IllegalArgumentException.class ? "IAE" : "" + e;
        } catch (IllegalStateException e) {
            return e.getClass() == IllegalStateException.class ? "ISE" : "" + e;
        } catch (IndexOutOfBoundsException e) {
            return e.getClass() == IndexOutOfBoundsException.class ? "IOOBE" : "" + e;
        }
    }
}
