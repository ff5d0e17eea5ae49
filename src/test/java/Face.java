/** Calls a method of the face by its name; a boolean answer counts 1 or 0. */
final class Face {
    private Face() {
    }

    static long call(CodeVerifier v, String name, String[] a) {
        switch (name) {
            case "declareClass":
                return v.declareClass(number(a[0]), truth(a[1]));
            case "declareField":
                return v.declareField(number(a[0]), number(a[1]));
            case "parameter":
                return v.parameter(number(a[0]));
            case "declareMethod":
                return v.declareMethod(number(a[0]), number(a[1]), number(a[2]));
            case "isAssignable":
                return v.isAssignable(number(a[0]), number(a[1])) ? 1 : 0;
            case "join":
                return v.join(number(a[0]), number(a[1]));
            case "begin":
                return v.begin(number(a[0]), number(a[1]), number(a[2]));
            case "emit":
                return v.emit(number(a[0]), number(a[1]));
            case "addHandler":
                return v.addHandler(number(a[0]), number(a[1]), number(a[2]), number(a[3]));
            case "instructionCount":
                return v.instructionCount();
            case "pushLocal":
                return v.pushLocal(number(a[0]));
            case "pushStack":
                return v.pushStack(number(a[0]));
            case "declareFrame":
                return v.declareFrame(number(a[0]), truth(a[1]));
            case "adoptFrames":
                return v.adoptFrames();
            case "infer":
                return v.infer();
            case "check":
                return v.check();
            case "errorPosition":
                return v.errorPosition();
            case "visits":
                return v.visits();
            case "hasFrame":
                return v.hasFrame(number(a[0])) ? 1 : 0;
            case "stackHeight":
                return v.stackHeight(number(a[0]));
            case "stackSlot":
                return v.stackSlot(number(a[0]), number(a[1]));
            case "localSlot":
                return v.localSlot(number(a[0]), number(a[1]));
            case "isMarked":
                return v.isMarked(number(a[0])) ? 1 : 0;
            case "digest":
                return v.digest();
            default:
                throw new AssertionError("no method " + name);
        }
    }

    private static int number(String text) {
        return Integer.parseInt(text);
    }

    private static boolean truth(String text) {
        if (!text.equals("true") && !text.equals("false")) {
            throw new AssertionError("no boolean " + text);
        }
        return text.equals("true");
    }
}
