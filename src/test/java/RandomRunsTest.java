import java.lang.reflect.InvocationTargetException;
import java.lang.reflect.Method;
import java.util.ArrayList;
import java.util.Arrays;
import java.util.Collections;
import java.util.HashMap;
import java.util.List;
import java.util.Map;
import java.util.Random;
import java.util.TreeMap;

/** Plays random runs, the same in every session, and compares each answer with the Model's. */
final class RandomRunsTest {
    private static final Map<String, Method> REAL = methods(CodeVerifier.class);
    private static final Map<String, Method> MODELLED = methods(Model.class);
    private static final TreeMap<String, Integer> KINDS = new TreeMap<>();

    private final CodeVerifier verifier = new CodeVerifier();
    private final Model model = new Model();
    private final Random random;
    private final StringBuilder log = new StringBuilder();
    private boolean failed = false;
    private Model.Picture now;
    private int planned;
    /** The indices at which the stack is empty, as far as this is known. */
    private final List<Integer> empties = new ArrayList<>();

    private RandomRunsTest(long seed) {
        random = new Random(seed);
    }

    private static Map<String, Method> methods(Class<?> c) {
        Map<String, Method> all = new HashMap<>();
        for (String name : new String[] {"declareClass", "declareField", "parameter", "declareMethod",
            "isAssignable", "join", "begin", "emit", "addHandler", "instructionCount", "pushLocal",
            "pushStack", "declareFrame", "adoptFrames", "infer", "check", "errorPosition", "visits",
            "hasFrame", "stackHeight", "stackSlot", "localSlot", "isMarked", "digest"}) {
            for (Method m : c.getDeclaredMethods()) {
                if (m.getName().equals(name)) {
                    all.put(name, m);
                }
            }
        }
        return all;
    }

    public static void main(String[] args) {
        int runs = args.length > 0 ? Integer.parseInt(args[0]) : 3000;
        for (int seed = 0; seed < runs; seed++) {
            RandomRunsTest run = new RandomRunsTest(seed);
            run.play();
            if (run.failed) {
                System.out.println("seed " + seed + ": " + run.log);
                break;
            }
        }
        System.out.println("kinds of the answers of infer and check: " + KINDS);
        for (int kind = 0; kind <= 11; kind++) {
            if (runs >= 3000 && kind != 10 && !KINDS.containsKey("infer " + kind)) {
                Run.fail("no run has infer() = " + kind);
            }
            if (runs >= 3000 && kind != 8 && !KINDS.containsKey("check " + kind)) {
                Run.fail("no run has check() = " + kind);
            }
        }
        Run.end();
    }

    // ---- both at once

    private static Object answer(Method method, Object on, Object[] args) {
        try {
            return method.invoke(on, args);
        } catch (InvocationTargetException e) {
            return e.getCause().getClass();
        } catch (IllegalAccessException e) {
            throw new AssertionError(e);
        }
    }

    private long call(String name, Object... args) {
        Object want = answer(MODELLED.get(name), model, args);
        Object got = answer(REAL.get(name), verifier, args);
        log.append(name).append(Arrays.toString(args)).append(" = ").append(want).append("; ");
        Run.same(name + Arrays.toString(args), got, want);
        failed |= !got.equals(want);
        if (name.equals("infer") || name.equals("check")) {
            KINDS.merge(name + " " + want, 1, Integer::sum);
        }
        return want instanceof Number ? ((Number) want).longValue() : Long.MIN_VALUE;
    }

    private int pick(int bound) {
        return random.nextInt(Math.max(1, bound));
    }

    private boolean chance(int percent) {
        return random.nextInt(100) < percent;
    }

    // ---- a run

    private void play() {
        declare();
        compareSlotValues();
        for (int round = 0; round < 6 && !failed; round++) {
            build();
            call("check");
            int kind = (int) call("infer");
            look();
            if (kind == 0) {
                KINDS.merge(model.visits > model.inferred.size() ? "loops" : "straight", 1, Integer::sum);
                call("adoptFrames");
                call("check");
                look();
            }
            disturb();
            call("check");
            look();
            call("infer");
            look();
            if (chance(20)) {
                declare();
            }
        }
    }

    private int anyClass() {
        for (int k = 0; k < 20; k++) {
            int base = pick(model.supers.size());
            if (model.classBase(base)) {
                return base;
            }
        }
        return 2;
    }

    private int anyType() {
        int base = pick(model.supers.size() + (chance(1) ? 1 : 0));
        return 8 * base + (chance(60) ? 0 : pick(chance(1) ? 7 : 4));
    }

    private int anyValue() {
        if (chance(60)) {
            return anyType();
        }
        return chance(50) ? -1 - pick(4) : chance(90) ? -10 - pick(20) : -112 + pick(110);
    }

    private void declare() {
        for (int k = pick(5) + 1; k > 0; k--) {
            boolean isInterface = chance(30);
            call("declareClass", isInterface ? 2 : chance(95) ? anyClass() : pick(model.supers.size()),
                    isInterface);
        }
        for (int k = pick(4); k > 0; k--) {
            call("declareField", chance(95) ? anyClass() : pick(model.supers.size()), chance(30) ? 8 : anyType());
        }
        for (int k = pick(5) + 2; k > 0; k--) {
            for (int n = pick(3); n > 0; n--) {
                call("parameter", chance(25) ? 8 : anyType());
            }
            int methodKind = pick(3);
            boolean isVoid = methodKind == 2 || chance(30);
            call("declareMethod", chance(95) ? anyClass() : pick(model.supers.size()), methodKind,
                    isVoid ? -1 : anyType());
        }
        call("declareMethod", anyClass(), 2, -1);
        call("declareMethod", 2, 2, -1);
    }

    private void compareSlotValues() {
        for (int k = 0; k < 30; k++) {
            int a = anyValue();
            int b = anyValue();
            call("isAssignable", a, b);
            call("join", a, b);
            call("join", b, a);
        }
    }

    private void look() {
        call("errorPosition");
        call("visits");
        call("digest");
        int index = pick(model.code.size() + 2) - 1;
        call("hasFrame", index);
        call("stackHeight", index);
        call("isMarked", index);
        call("stackSlot", index, pick(5) - 1);
        call("localSlot", index, pick(model.localCount + 2) - 1);
        call("instructionCount");
    }

    // ---- code that is mostly right

    private void build() {
        if (model.methods.isEmpty()) {
            return;
        }
        int locals = chance(95) ? 6 + pick(7) : pick(14);
        int height = chance(90) ? 4 + pick(9) : pick(14);
        if (call("begin", pick(model.methods.size()), height, locals) < 0) {
            return;
        }
        planned = 3 + pick(25);
        empties.clear();
        now = start();
        if (now.mark && chance(80)) {
            add(6, 0);
            invoke(35, anyMethod(2));
        }
        while (model.code.size() < planned && model.code.size() < 90) {
            addSomething();
        }
        leave();
        addHandlers();
    }

    private void addHandlers() {
        int[] outer = {planned, 0};
        for (int n = chance(50) ? pick(3) + 1 : 0; n > 0; n--) {
            int size = model.code.size();
            int target = size;
            int caught = chance(60) ? 2 : chance(90) ? anyClass() : pick(model.supers.size());
            now = start();
            for (int k = 0; k < now.locals.size(); k++) {
                if (chance(70)) {
                    now.locals.set(k, -2);
                }
            }
            now.stack.add(16);
            addSomething();
            leave();
            int start = pick(size);
            int end = start + 1 + pick(size - start);
            if (chance(90)) {
                start = Math.min(start, outer[0]);
                end = Math.max(end, outer[1]);
            }
            outer = new int[] {start, end};
            if (chance(20)) {
                target = pick(size);
            }
            call("addHandler", chance(95) ? start : -1, end + (chance(5) ? 9 : 0), target, caught);
        }
    }

    private Model.Picture start() {
        Model.Picture first = model.first();
        if (first.locals.size() > model.localCount) {
            first.locals = new ArrayList<>(Collections.nCopies(model.localCount, Model.TOP));
        }
        return first;
    }

    private int anyMethod(int kind) {
        if (model.methods.isEmpty()) {
            return 0;
        }
        int found = pick(model.methods.size());
        for (int k = 0; k < 20 && model.methods.get(found).kind != kind; k++) {
            found = pick(model.methods.size());
        }
        return found;
    }

    /** Adds an instruction, and follows what it does to the frame as long as this is known. */
    private boolean add(int op, int operand) {
        if (model.code.size() == 100) {
            return false;
        }
        call("emit", op, operand);
        if (now == null) {
            now = start();
        }
        int index = model.code.size() - 1;
        Model.Picture next = now.copy();
        try {
            if (model.allowed(op, operand)) {
                model.new Step(index, next).run();
                now = next;
            }
        } catch (Model.Fault f) {
            return false;
        }
        if (Model.ends(op)) {
            now = start();
        }
        return true;
    }

    private boolean wouldRun(int op, int operand) {
        model.code.add(new int[] {op, operand});
        try {
            if (!model.allowed(op, operand)) {
                return false;
            }
            model.new Step(model.code.size() - 1, now.copy()).run();
            return true;
        } catch (Model.Fault f) {
            return false;
        } finally {
            model.code.remove(model.code.size() - 1);
        }
    }

    private int anyOperand(int op) {
        if (op >= 4 && op <= 9 || op == 21) {
            return pick(model.localCount);
        }
        if (Model.jump(op)) {
            return pick(planned);
        }
        if (op == 32 || op == 33) {
            return pick(model.fields.size());
        }
        if (op == 34) {
            return chance(98) ? anyClass() : pick(model.supers.size());
        }
        if (op >= 35 && op <= 37) {
            return anyMethod(op == 35 ? 2 : op - 36);
        }
        return anyType();
    }

    private void addSomething() {
        if (now.stack.isEmpty()) {
            empties.add(model.code.size());
        } else if (chance(30)) {
            empty();
            return;
        }
        if (chance(15)) {
            int caller = 35 + pick(3);
            invoke(caller, anyMethod(caller == 35 ? 2 : caller - 36));
            return;
        }
        if (chance(8) && !model.fields.isEmpty()) {
            useField(pick(model.fields.size()));
            return;
        }
        if (chance(15) && now.stack.isEmpty()) {
            addJump();
            return;
        }
        if (chance(6)) {
            addDiamond();
            return;
        }
        for (int k = 0; k < 30; k++) {
            int op = pick(46);
            int operand = anyOperand(op);
            boolean isRisky = Model.jump(op) || Model.ends(op);
            if (random.nextInt(1000) < 1 || !isRisky && wouldRun(op, operand)) {
                add(op, operand);
                return;
            }
        }
        add(10, 0);
    }

    private void addJump() {
        int op = 22 + pick(5);
        if (op == 23 || op == 24) {
            supply(0);
        }
        if (op == 24) {
            supply(0);
        }
        if (op == 25 || op == 26) {
            supply(anyReference());
        }
        if (op == 26) {
            supply(anyReference());
        }
        boolean isBackward = chance(75) && !empties.isEmpty();
        add(op, isBackward ? empties.get(pick(empties.size())) : anyOperand(op));
    }

    /** Takes all from the stack, and keeps what can be kept in local variables. */
    private void empty() {
        for (int k = now.stack.size(); k > 0 && !now.stack.isEmpty(); k--) {
            int top = now.stack.get(now.stack.size() - 1);
            if (top == Model.HIGH) {
                add(chance(70) && model.localCount > 3 ? 8 : 11, 1 + pick(model.localCount - 2));
            } else if (chance(20)) {
                add(10, 0);
            } else {
                add(top == 0 ? 7 : 9, (chance(80) ? 1 : 0) + pick(model.localCount - 1));
            }
        }
    }

    /** Two ways that meet with different values on the stack. */
    private void addDiamond() {
        supply(0);
        int fork = model.code.size();
        int type = anyReference();
        int other = anyReference();
        Model.Picture before = now.copy();
        if (model.code.size() > 80 || before.stack.isEmpty()) {
            return;
        }
        add(23, fork + 4);
        add(3, 0);
        add(44, type);
        add(22, fork + 6);
        before.stack.remove(before.stack.size() - 1);
        now = before;
        add(3, 0);
        add(44, other);
        if (!now.stack.isEmpty()) {
            now.stack.set(now.stack.size() - 1, model.joined(type, other));
        }
    }

    private int anyReference() {
        int type = anyType();
        return model.type(type) && model.ref(type) ? type : 16;
    }

    private void supply(int type) {
        if (type == 0) {
            add(1, 0);
        } else if (type == 8) {
            add(2, 0);
        } else {
            for (int n = 0; n < model.localCount && chance(80); n++) {
                int value = now.locals.get(n);
                if (model.ref(value) && (model.fits(value, type) || chance(1))) {
                    add(6, n);
                    return;
                }
            }
            add(3, 0);
            if (chance(50)) {
                add(44, type);
            }
        }
    }

    private void invoke(int op, int number) {
        if (!model.member(number, op == 35 ? 2 : op - 36) && !chance(1)) {
            return;
        }
        Model.Method m = model.methods.get(number);
        if (op == 35 && now.stack.isEmpty()) {
            add(34, m.owner);
            if (chance(70)) {
                add(12, 0);
            } else {
                add(9, pick(model.localCount));
                add(6, pick(model.localCount));
            }
        } else if (op == 36) {
            supply(8 * m.owner);
        }
        for (int type : m.parameters) {
            supply(type);
        }
        add(op, number);
    }

    private void useField(int number) {
        int[] field = model.fields.get(number);
        if (now.mark && chance(80)) {
            add(6, 0);
        } else {
            supply(8 * field[0]);
        }
        if (chance(50)) {
            supply(field[1]);
            add(33, number);
        } else {
            add(32, number);
        }
    }

    private void leave() {
        int result = model.method.result;
        if (result >= 0) {
            supply(result);
        }
        if (chance(2)) {
            return;
        }
        boolean isThrown = chance(5);
        add(result == -1 ? 30 : result == 0 ? 27 : result == 8 ? 28 : isThrown ? 31 : 29, 0);
    }

    // ---- declared frames, and changes at random

    private void disturb() {
        for (int k = pick(6); k > 0; k--) {
            int index = pick(model.code.size() + 1);
            if (chance(60) && model.declared.size() > 0) {
                declareAlike();
            } else if (chance(50)) {
                for (int n = pick(5); n > 0; n--) {
                    pushValue(chance(70) ? "pushLocal" : "pushStack", anyValue());
                }
                call("declareFrame", index, chance(20));
            } else if (chance(30)) {
                call("addHandler", pick(10), pick(20), pick(20), pick(6));
            } else if (chance(30)) {
                int op = pick(47);
                planned = model.code.size();
                call("emit", op, anyOperand(Math.min(op, 45)));
            } else {
                compareSlotValues();
            }
        }
    }

    private void pushValue(String call, int value) {
        call(call, value);
        if (value == 8 && chance(95)) {
            call(call, -3);
        }
    }

    /** Declares a frame again, with a slot or the mark changed. */
    private void declareAlike() {
        Integer[] places = model.declared.keySet().toArray(new Integer[0]);
        int place = places[pick(places.length)];
        Model.Picture p = model.declared.get(place);
        for (int v : p.locals) {
            call("pushLocal", v != 8 && v != -3 && chance(10) ? anyValue() : v);
        }
        for (int v : p.stack) {
            call("pushStack", v != 8 && v != -3 && chance(20) ? anyValue() : v);
        }
        call("declareFrame", chance(90) ? place : pick(model.code.size() + 1), p.mark ^ chance(5));
    }
}
