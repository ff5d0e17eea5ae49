import java.lang.reflect.Constructor;
import java.lang.reflect.Field;
import java.lang.reflect.Method;
import java.lang.reflect.Modifier;
import java.util.Arrays;
import java.util.Random;
import java.util.TreeSet;
import java.util.regex.Matcher;
import java.util.regex.Pattern;

/** The public face, and that no call throws anything but what the document names. */
final class FaceTest {
    private static final String IAE = "IllegalArgumentException";
    private static final String ISE = "IllegalStateException";
    private static final String IOOBE = "IndexOutOfBoundsException";
    private static final String NSEE = "NoSuchElementException";

    private static final String[][] FACE = {
        {"int declareClass(int,boolean)", IAE, ISE}, {"int declareField(int,int)", IAE, ISE},
        {"int parameter(int)", IAE, ISE}, {"int declareMethod(int,int,int)", IAE, ISE},
        {"boolean isAssignable(int,int)", IAE}, {"int join(int,int)", IAE}, {"int begin(int,int,int)", IOOBE, IAE},
        {"int emit(int,int)", IAE, ISE}, {"int addHandler(int,int,int,int)", IAE, ISE}, {"int instructionCount()"},
        {"int pushLocal(int)", IAE, ISE}, {"int pushStack(int)", IAE, ISE},
        {"int declareFrame(int,boolean)", IOOBE, IAE}, {"int adoptFrames()", ISE}, {"int infer()", ISE},
        {"int check()", ISE}, {"int errorPosition()"}, {"int visits()"}, {"boolean hasFrame(int)", IOOBE},
        {"int stackHeight(int)", IOOBE, ISE}, {"int stackSlot(int,int)", IOOBE, ISE, NSEE},
        {"int localSlot(int,int)", IOOBE, ISE, NSEE}, {"boolean isMarked(int)", IOOBE, ISE}, {"long digest()"}};

    public static void main(String[] args) {
        signatures();
        nothingElse();
        for (int seed = 0; seed < 400; seed++) {
            anyCalls(seed);
        }
        Run.end();
    }

    private static void signatures() {
        TreeSet<String> due = new TreeSet<>();
        for (String[] row : FACE) {
            due.add(Arrays.toString(row));
        }
        TreeSet<String> found = new TreeSet<>();
        for (Method method : CodeVerifier.class.getDeclaredMethods()) {
            if (!Modifier.isPrivate(method.getModifiers()) && !method.isSynthetic()) {
                found.add(row(method));
            }
        }
        Run.same("methods", found, due);
        Run.same("methods of the document", documented(), due);
    }

    /** The methods that the document lists, each written as row() writes it. */
    private static TreeSet<String> documented() {
        Pattern signature = Pattern.compile("    public (\\w+ \\w+)\\((.*)\\)(?: throws (.*))?;");
        TreeSet<String> rows = new TreeSet<>();
        for (String line : Texts.document()) {
            Matcher matcher = signature.matcher(line);
            if (matcher.matches()) {
                String types = matcher.group(2).replaceAll(" \\w+(,|$) ?", "$1");
                String thrown = matcher.group(3) == null ? "" : ", " + matcher.group(3).replace("java.util.", "");
                rows.add("[" + matcher.group(1) + "(" + types + ")" + thrown + "]");
            }
        }
        return rows;
    }

    private static String row(Method method) {
        StringBuilder types = new StringBuilder();
        for (Class<?> type : method.getParameterTypes()) {
            types.append(types.length() == 0 ? "" : ",").append(type.getSimpleName());
        }
        boolean isPlain = method.getModifiers() == Modifier.PUBLIC;
        StringBuilder row = new StringBuilder("[" + (isPlain ? "" : "not only public ")
                + method.getReturnType().getSimpleName() + " " + method.getName() + "(" + types + ")");
        for (Class<?> thrown : method.getExceptionTypes()) {
            row.append(", ").append(thrown.getSimpleName());
        }
        return row.append("]").toString();
    }

    private static void nothingElse() {
        Run.same("modifiers", Modifier.toString(CodeVerifier.class.getModifiers()), "public final");
        Run.same("superclass", CodeVerifier.class.getSuperclass(), Object.class);
        Run.same("interfaces", CodeVerifier.class.getInterfaces().length, 0);
        Constructor<?>[] constructors = CodeVerifier.class.getDeclaredConstructors();
        Run.same("constructors", constructors.length, 1);
        Run.same("constructor", constructors[0].toString(), "public CodeVerifier()");
        for (Field field : CodeVerifier.class.getDeclaredFields()) {
            Run.same(field + " is private", Modifier.isPrivate(field.getModifiers()), true);
        }
        TreeSet<String> names = new TreeSet<>();
        for (String[] row : FACE) {
            names.add(row[0].substring(row[0].indexOf(' ') + 1, row[0].indexOf('(')));
        }
        for (Class<?> inside : CodeVerifier.class.getDeclaredClasses()) {
            Run.same(inside + " is static", Modifier.isStatic(inside.getModifiers()), true);
            Run.same(inside + " is not public", Modifier.isPublic(inside.getModifiers()), false);
            for (Field field : inside.getDeclaredFields()) {
                boolean isVariable = Modifier.isStatic(field.getModifiers()) && !Modifier.isFinal(field.getModifiers());
                Run.same(field + " is a static variable", isVariable, false);
            }
        }
        for (Method method : CodeVerifier.class.getDeclaredMethods()) {
            boolean isAmbiguous = Modifier.isPrivate(method.getModifiers()) && names.contains(method.getName());
            Run.same(method + " has a public name", isAmbiguous, false);
        }
    }

    private static int anyInt(Random random) {
        int[] far = {Integer.MIN_VALUE, Integer.MAX_VALUE, -1, -10, -109, -110, 1 << 30, 99, 100, 159, 160, 164, -4};
        return random.nextInt(8) == 0 ? far[random.nextInt(far.length)] : random.nextInt(4) == 0
                ? random.nextInt(180) - 20 : random.nextInt(5);
    }

    /** 512 calls with any arguments, in any order; Run.answer passes on what is not allowed at all. */
    private static void anyCalls(int seed) {
        Random random = new Random(seed);
        CodeVerifier verifier = new CodeVerifier();
        CodeVerifier second = new CodeVerifier();
        for (int n = 0; n < 511; n++) {
            String[] row = FACE[random.nextInt(FACE.length)];
            if (n < 40 && random.nextInt(2) == 0) {
                row = FACE[random.nextInt(4)];
            }
            String name = row[0].substring(row[0].indexOf(' ') + 1, row[0].indexOf('('));
            if (name.equals("begin") && random.nextInt(8) != 0) {
                name = "emit";
                row = FACE[7];
            }
            String inside = row[0].substring(row[0].indexOf('(') + 1, row[0].length() - 1);
            String[] args = inside.isEmpty() ? new String[0] : inside.split(",");
            for (int k = 0; k < args.length; k++) {
                args[k] = args[k].equals("boolean") ? "" + random.nextBoolean() : "" + anyInt(random);
            }
            if (name.equals("emit")) {
                args[0] = "" + (random.nextInt(48) - 1);
            }
            String call = "seed " + seed + ": " + name + Arrays.toString(args);
            String got = Run.answer(verifier, name, args);
            Run.same(call + " once more", Run.answer(second, name, args), got);
            Run.same(call + " is allowed", isAllowed(row, got), true);
        }
        Run.same("seed " + seed + ": digest", second.digest(), verifier.digest());
    }

    private static boolean isAllowed(String[] row, String got) {
        if (!got.endsWith("E")) {
            return got.matches("-?[0-9]+");
        }
        for (int k = 1; k < row.length; k++) {
            String initials = row[k].replaceAll("[a-z]", "");
            if (initials.equals(got)) {
                return true;
            }
        }
        return false;
    }
}
