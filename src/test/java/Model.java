import java.util.ArrayList;
import java.util.Arrays;
import java.util.List;
import java.util.NoSuchElementException;
import java.util.TreeMap;
import java.util.TreeSet;

/**
 * The document once more, written another way and without regard to what it costs: rules as
 * recursions, frames as lists, errors as exceptions. RandomRunsTest compares the class with it.
 */
final class Model {
    static final int NULL = -1, TOP = -2, HIGH = -3, THIS = -4;

    /** An error of the code, with its kind. */
    static final class Fault extends Exception {
        private static final long serialVersionUID = 1L;
        final int kind;
        final int position;

        Fault(int kind, int position) {
            this.kind = kind;
            this.position = position;
        }
    }

    static final class Picture {
        List<Integer> locals = new ArrayList<>();
        List<Integer> stack = new ArrayList<>();
        boolean mark;

        Picture copy() {
            Picture p = new Picture();
            p.locals.addAll(locals);
            p.stack.addAll(stack);
            p.mark = mark;
            return p;
        }

        boolean same(Picture p) {
            return locals.equals(p.locals) && stack.equals(p.stack) && mark == p.mark;
        }
    }

    static final class Method {
        int owner, kind, result;
        List<Integer> parameters;
    }

    final List<Integer> supers = new ArrayList<>(List.of(-1, -1, -1));
    final List<Boolean> interfaces = new ArrayList<>(List.of(false, false, false));
    final List<int[]> fields = new ArrayList<>();
    final List<Method> methods = new ArrayList<>();
    List<Integer> parameters = new ArrayList<>();
    Method method;
    int maxStack, localCount;
    final List<int[]> code = new ArrayList<>();
    final List<int[]> handlers = new ArrayList<>();
    List<Integer> pendingLocals = new ArrayList<>();
    List<Integer> pendingStack = new ArrayList<>();
    TreeMap<Integer, Picture> declared = new TreeMap<>();
    TreeMap<Integer, Picture> inferred = new TreeMap<>();
    int position = -1, visits = 0;

    static IllegalArgumentException argument() {
        return new IllegalArgumentException();
    }

    static IllegalStateException state() {
        return new IllegalStateException();
    }

    boolean base(int b) {
        return b >= 0 && b < supers.size();
    }

    boolean interfaceBase(int b) {
        return base(b) && interfaces.get(b);
    }

    boolean classBase(int b) {
        return base(b) && b != 0 && b != 1 && !interfaces.get(b);
    }

    boolean type(int t) {
        for (int b = 0; b < supers.size(); b++) {
            for (int d = 0; d <= 4; d++) {
                if (t == 8 * b + d) {
                    return true;
                }
            }
        }
        return false;
    }

    boolean slot(int v) {
        return type(v) || List.of(-1, -2, -3, -4).contains(v) || v <= -10 && v >= -109;
    }

    boolean ref(int v) {
        return v >= 0 && v != 0 && v != 8;
    }

    boolean array(int t) {
        return t >= 0 && t % 8 != 0;
    }

    // ---- types

    boolean sub(int s, int t) {
        if (s == t || t == 16 || t % 8 == 0 && interfaces.get(t / 8)) {
            return true;
        }
        if (s % 8 == 0 && t % 8 == 0) {
            int up = supers.get(s / 8);
            return up >= 0 && sub(8 * up, t);
        }
        return array(s) && array(t) && ref(s - 1) && ref(t - 1) && sub(s - 1, t - 1);
    }

    int lub(int s, int t) {
        if (s == t) {
            return s;
        }
        if (array(s) && array(t) && ref(s - 1) && ref(t - 1)) {
            return lub(s - 1, t - 1) + 1;
        }
        if (s % 8 == 0 && t % 8 == 0 && classBase(s / 8) && classBase(t / 8)) {
            return sub(t, s) ? s : lub(8 * supers.get(s / 8), t);
        }
        return 16;
    }

    boolean fits(int v, int w) {
        return v == w || w == TOP || v == NULL && ref(w) || ref(v) && ref(w) && sub(v, w);
    }

    int joined(int v, int w) {
        if (v == w) {
            return v;
        }
        if (v == NULL && ref(w)) {
            return w;
        }
        if (w == NULL && ref(v)) {
            return v;
        }
        return ref(v) && ref(w) ? lub(v, w) : TOP;
    }

    boolean pictureFits(Picture f, Picture g) {
        if (f.stack.size() != g.stack.size() || f.mark && !g.mark) {
            return false;
        }
        boolean all = true;
        for (int k = 0; k < f.stack.size(); k++) {
            all &= fits(f.stack.get(k), g.stack.get(k));
        }
        for (int k = 0; k < localCount; k++) {
            all &= fits(f.locals.get(k), g.locals.get(k));
        }
        return all;
    }

    // ---- declarations

    int declareClass(int superclass, boolean isInterface) {
        if (!classBase(superclass) || superclass != 2 && isInterface) {
            throw argument();
        }
        if (supers.size() == 20) {
            throw state();
        }
        supers.add(superclass);
        interfaces.add(isInterface);
        return supers.size() - 1;
    }

    int declareField(int owner, int type) {
        if (!classBase(owner) || !type(type)) {
            throw argument();
        }
        if (fields.size() == 30) {
            throw state();
        }
        fields.add(new int[] {owner, type});
        return fields.size() - 1;
    }

    static int slots(List<Integer> types) {
        int sum = 0;
        for (int t : types) {
            sum += t == 8 ? 2 : 1;
        }
        return sum;
    }

    int parameter(int type) {
        if (!type(type)) {
            throw argument();
        }
        List<Integer> more = new ArrayList<>(parameters);
        more.add(type);
        if (slots(more) > 6) {
            throw state();
        }
        parameters = more;
        return slots(more);
    }

    int declareMethod(int owner, int kind, int result) {
        Method m = new Method();
        m.parameters = parameters;
        parameters = new ArrayList<>();
        boolean ownerFits = classBase(owner) || kind == 0 && interfaceBase(owner);
        if (!ownerFits || kind < 0 || kind > 2 || !type(result) && result != -1
                || kind == 2 && result != -1) {
            throw argument();
        }
        if (methods.size() == 30) {
            throw state();
        }
        m.owner = owner;
        m.kind = kind;
        m.result = result;
        methods.add(m);
        return methods.size() - 1;
    }

    boolean isAssignable(int from, int to) {
        if (!slot(from) || !slot(to)) {
            throw argument();
        }
        return fits(from, to);
    }

    int join(int first, int second) {
        if (!slot(first) || !slot(second)) {
            throw argument();
        }
        return joined(first, second);
    }

    // ---- code

    int need(Method m) {
        return slots(m.parameters) + (m.kind == 1 ? 0 : 1);
    }

    int begin(int number, int maxStack, int locals) {
        if (number < 0 || number >= methods.size()) {
            throw new IndexOutOfBoundsException();
        }
        if (maxStack < 0 || maxStack > 12 || locals < 0 || locals > 12
                || interfaceBase(methods.get(number).owner)) {
            throw argument();
        }
        method = methods.get(number);
        this.maxStack = maxStack;
        localCount = locals;
        code.clear();
        handlers.clear();
        declared.clear();
        inferred.clear();
        return need(method);
    }

    int emit(int op, int operand) {
        if (op < 0 || op > 45) {
            throw argument();
        }
        if (method == null || code.size() == 100) {
            throw state();
        }
        code.add(new int[] {op, operand});
        inferred.clear();
        return code.size() - 1;
    }

    int addHandler(int start, int end, int target, int caught) {
        if (!classBase(caught)) {
            throw argument();
        }
        if (method == null || handlers.size() == 10) {
            throw state();
        }
        handlers.add(new int[] {start, end, target, caught});
        inferred.clear();
        return handlers.size() - 1;
    }

    int instructionCount() {
        return code.size();
    }

    int pushLocal(int value) {
        if (!slot(value)) {
            throw argument();
        }
        if (pendingLocals.size() == 12) {
            throw state();
        }
        pendingLocals.add(value);
        return pendingLocals.size();
    }

    int pushStack(int value) {
        if (!slot(value)) {
            throw argument();
        }
        if (pendingStack.size() == 12) {
            throw state();
        }
        pendingStack.add(value);
        return pendingStack.size();
    }

    static boolean paired(List<Integer> slots) {
        for (int k = 0; k < slots.size(); k++) {
            if (slots.get(k) == 8 && (k + 1 == slots.size() || slots.get(k + 1) != HIGH)) {
                return false;
            }
            if (slots.get(k) == HIGH && (k == 0 || slots.get(k - 1) != 8)) {
                return false;
            }
        }
        return true;
    }

    int declareFrame(int index, boolean mark) {
        Picture p = new Picture();
        p.locals = pendingLocals;
        p.stack = pendingStack;
        p.mark = mark;
        pendingLocals = new ArrayList<>();
        pendingStack = new ArrayList<>();
        if (index < 0 || index >= code.size()) {
            throw new IndexOutOfBoundsException();
        }
        while (p.locals.size() < localCount) {
            p.locals.add(TOP);
        }
        if (p.locals.size() > localCount || p.stack.size() > maxStack
                || !paired(p.locals) || !paired(p.stack)) {
            throw argument();
        }
        declared.put(index, p);
        return declared.size();
    }

    static boolean jump(int op) {
        return op == 22 || op == 23 || op == 24 || op == 25 || op == 26;
    }

    static boolean ends(int op) {
        return List.of(22, 27, 28, 29, 30, 31).contains(op);
    }

    boolean inRange(int[] handler, int index) {
        return handler[0] <= index && index <= handler[1] - 1;
    }

    int adoptFrames() {
        if (inferred.isEmpty()) {
            throw state();
        }
        TreeSet<Integer> places = new TreeSet<>();
        for (int i : inferred.keySet()) {
            if (jump(code.get(i)[0])) {
                places.add(code.get(i)[1]);
            }
            for (int[] h : handlers) {
                if (inRange(h, i)) {
                    places.add(h[2]);
                }
            }
            if (i > 0 && ends(code.get(i - 1)[0])) {
                places.add(i);
            }
        }
        declared.clear();
        for (int place : places) {
            declared.put(place, inferred.get(place).copy());
        }
        return declared.size();
    }

    // ---- examination

    boolean local(int n, int width) {
        return n >= 0 && n + width <= localCount;
    }

    boolean member(int m, int kind) {
        return m >= 0 && m < methods.size() && methods.get(m).kind == kind;
    }

    boolean allowed(int op, int x) {
        if (op == 5 || op == 8) {
            return local(x < 0 ? -1 : Math.min(x, 1000), 2);
        }
        if (op >= 4 && op <= 9 || op == 21) {
            return local(x < 0 ? -1 : Math.min(x, 1000), 1);
        }
        if (jump(op)) {
            return x >= 0 && x < code.size();
        }
        if (op == 32 || op == 33) {
            return x >= 0 && x < fields.size();
        }
        if (op == 34) {
            return classBase(x);
        }
        if (op == 35) {
            return member(x, 2);
        }
        if (op == 36) {
            return member(x, 0);
        }
        if (op == 37) {
            return member(x, 1);
        }
        if (op == 38) {
            return type(x) && x % 8 <= 3;
        }
        return op < 44 || type(x) && ref(x);
    }

    boolean handlerAllowed(int number) {
        int[] h = handlers.get(number);
        if (!(0 <= h[0] && h[0] < h[1] && h[1] <= code.size()) || h[2] < 0 || h[2] >= code.size()) {
            return false;
        }
        for (int[] g : handlers.subList(0, number)) {
            int common = 0;
            int missing = 0;
            for (int i = g[0]; i < g[1]; i++) {
                if (inRange(h, i)) {
                    common++;
                } else {
                    missing++;
                }
            }
            if (common > 0 && missing > 0) {
                return false;
            }
        }
        return true;
    }

    void examine() throws Fault {
        if (code.isEmpty()) {
            throw new Fault(7, 0);
        }
        for (int i = 0; i < code.size(); i++) {
            if (!allowed(code.get(i)[0], code.get(i)[1])) {
                throw new Fault(1, i);
            }
        }
        for (int h = 0; h < handlers.size(); h++) {
            if (!handlerAllowed(h)) {
                throw new Fault(2, h);
            }
        }
        if (need(method) > localCount) {
            throw new Fault(11, 0);
        }
    }

    Picture first() {
        Picture p = new Picture();
        if (method.kind == 0 || method.kind == 2 && method.owner == 2) {
            p.locals.add(8 * method.owner);
        } else if (method.kind == 2) {
            p.locals.add(THIS);
            p.mark = true;
        }
        for (int t : method.parameters) {
            p.locals.add(t);
            if (t == 8) {
                p.locals.add(HIGH);
            }
        }
        while (p.locals.size() < localCount) {
            p.locals.add(TOP);
        }
        return p;
    }

    // ---- one instruction

    /** The instruction that is executed, and the frame that it changes. */
    final class Step {
        final int i;
        final Picture p;

        Step(int i, Picture p) {
            this.i = i;
            this.p = p;
        }

        void need(boolean holds, int kind) throws Fault {
            if (!holds) {
                throw new Fault(kind, i);
            }
        }

        int pop() throws Fault {
            need(!p.stack.isEmpty(), 3);
            return p.stack.remove(p.stack.size() - 1);
        }

        /** Pops by a letter: I, J (LONG), R (reference), X (any reference), V (a slot of no LONG). */
        int pop(char letter) throws Fault {
            if (letter == 'J') {
                need(p.stack.size() >= 2, 3);
                int high = pop();
                int low = pop();
                need(low == 8 && high == HIGH, 4);
                return 8;
            }
            int v = pop();
            boolean right;
            switch (letter) {
                case 'I':
                    right = v == 0;
                    break;
                case 'R':
                    right = v == NULL || ref(v);
                    break;
                case 'X':
                    right = v == NULL || ref(v) || v == THIS || v <= -10;
                    break;
                case 'Z':
                    right = v == NULL || v == 1;
                    break;
                case 'A':
                    right = v == NULL || array(v) && ref(v - 1);
                    break;
                case 'Y':
                    right = v == NULL || array(v);
                    break;
                case 'V':
                    right = v != 8 && v != HIGH;
                    break;
                default:
                    throw new AssertionError();
            }
            need(right, 4);
            return v;
        }

        void popTyped(int t) throws Fault {
            if (t == 8) {
                pop('J');
            } else if (t == 0) {
                pop('I');
            } else {
                need(fits(pop(), t), 4);
            }
        }

        void push(int... slots) throws Fault {
            for (int v : slots) {
                p.stack.add(v);
            }
        }

        void pushTyped(int t) throws Fault {
            if (t == 8) {
                push(8, HIGH);
            } else if (t != -1) {
                push(t);
            }
        }

        void write(int n, int v) {
            int old = p.locals.get(n);
            if (old == 8) {
                p.locals.set(n + 1, TOP);
            } else if (old == HIGH) {
                p.locals.set(n - 1, TOP);
            }
            p.locals.set(n, v);
        }

        void replace(List<Integer> slots, int v, int w) {
            for (int k = 0; k < slots.size(); k++) {
                if (slots.get(k) == v) {
                    slots.set(k, w);
                }
            }
        }

        void run() throws Fault {
            act(code.get(i)[0], code.get(i)[1]);
            need(p.stack.size() <= maxStack, 6);
        }

        void act(int op, int x) throws Fault {
            String[] plain = new String[46];
            plain[0] = ":";
            plain[1] = ":I";
            plain[2] = ":J";
            plain[3] = ":N";
            plain[10] = "V:";
            plain[16] = "II:I";
            plain[17] = "JJ:J";
            plain[18] = "I:J";
            plain[19] = "J:I";
            plain[20] = "JJ:I";
            plain[22] = ":";
            plain[23] = "I:";
            plain[24] = "II:";
            plain[25] = "X:";
            plain[26] = "XX:";
            plain[31] = "R:";
            plain[39] = "IZ:I";
            plain[40] = "IIZ:";
            plain[42] = "RIA:";
            plain[43] = "Y:I";
            plain[45] = "R:I";
            if (plain[op] != null) {
                String[] sides = plain[op].split(":", -1);
                for (char letter : sides[0].toCharArray()) {
                    pop(letter);
                }
                for (char letter : sides[1].toCharArray()) {
                    pushTyped(0 + (letter == 'J' ? 8 : 0));
                    if (letter == 'N') {
                        p.stack.set(p.stack.size() - 1, NULL);
                    }
                }
            } else {
                special(op, x);
            }
        }

        void special(int op, int x) throws Fault {
            int a;
            int b;
            switch (op) {
                case 4:
                case 21:
                    need(p.locals.get(x) == 0, 5);
                    if (op == 4) {
                        push(0);
                    }
                    break;
                case 5:
                    need(p.locals.get(x) == 8, 5);
                    push(8, HIGH);
                    break;
                case 6:
                    a = p.locals.get(x);
                    need(a == NULL || ref(a) || a == THIS || a <= -10, 5);
                    push(a);
                    break;
                case 7:
                    write(x, pop('I'));
                    break;
                case 8:
                    pop('J');
                    write(x, TOP);
                    write(x + 1, TOP);
                    p.locals.set(x, 8);
                    p.locals.set(x + 1, HIGH);
                    break;
                case 9:
                    write(x, pop('X'));
                    break;
                case 11:
                case 14:
                    need(p.stack.size() >= 2, 3);
                    b = pop();
                    a = pop();
                    need(a == 8 && b == HIGH || a != 8 && a != HIGH && b != 8 && b != HIGH, 4);
                    if (op == 14) {
                        push(a, b, a, b);
                    }
                    break;
                case 12:
                    a = pop('V');
                    push(a, a);
                    break;
                case 13:
                    b = pop('V');
                    a = pop('V');
                    push(b, a, b);
                    break;
                case 15:
                    b = pop('V');
                    a = pop('V');
                    push(b, a);
                    break;
                case 27:
                    pop('I');
                    need(method.result == 0, 9);
                    break;
                case 28:
                    pop('J');
                    need(method.result == 8, 9);
                    break;
                case 29:
                    a = pop('R');
                    need(ref(method.result) && fits(a, method.result), 9);
                    break;
                case 30:
                    need(method.result == -1, 9);
                    need(!p.mark, 9);
                    break;
                case 32:
                    popTyped(8 * fields.get(x)[0]);
                    pushTyped(fields.get(x)[1]);
                    break;
                case 33:
                    popTyped(fields.get(x)[1]);
                    a = pop();
                    need(a == THIS && fields.get(x)[0] == method.owner
                            || (ref(a) || a == NULL) && fits(a, 8 * fields.get(x)[0]), 4);
                    break;
                case 34:
                    need(!p.stack.contains(-10 - i), 4);
                    replace(p.locals, -10 - i, TOP);
                    push(-10 - i);
                    break;
                case 35:
                case 36:
                case 37:
                    call(op, methods.get(x));
                    break;
                case 38:
                    pop('I');
                    push(x + 1);
                    break;
                case 41:
                    pop('I');
                    a = pop('A');
                    push(a == NULL ? NULL : a - 1);
                    break;
                case 44:
                    pop('R');
                    push(x);
                    break;
                default:
                    throw new AssertionError();
            }
        }

        void call(int op, Method m) throws Fault {
            for (int k = m.parameters.size(); k > 0; k--) {
                popTyped(m.parameters.get(k - 1));
            }
            if (op == 36) {
                int a = pop();
                need((ref(a) || a == NULL) && fits(a, 8 * m.owner), 4);
            } else if (op == 35) {
                int a = pop();
                if (a == THIS) {
                    need(m.owner == method.owner || m.owner == supers.get(method.owner), 4);
                    replace(p.locals, THIS, 8 * method.owner);
                    replace(p.stack, THIS, 8 * method.owner);
                    p.mark = false;
                } else {
                    int made = -a - 10;
                    need(made >= 0 && made < code.size(), 4);
                    need(code.get(made)[0] == 34 && code.get(made)[1] == m.owner, 4);
                    replace(p.locals, a, 8 * m.owner);
                    replace(p.stack, a, 8 * m.owner);
                }
            }
            pushTyped(m.result);
        }
    }

    // ---- the two analyses

    interface Flow {
        void to(int index, Picture p, boolean next) throws Fault;
    }

    Picture process(int i, Picture given, Flow flow) throws Fault {
        visits++;
        for (int[] h : handlers) {
            if (inRange(h, i)) {
                if (maxStack == 0) {
                    throw new Fault(6, i);
                }
                Picture p = given.copy();
                p.stack = new ArrayList<>(List.of(8 * h[3]));
                flow.to(h[2], p, false);
            }
        }
        Picture p = given.copy();
        new Step(i, p).run();
        int op = code.get(i)[0];
        if (!ends(op)) {
            if (i + 1 == code.size()) {
                throw new Fault(7, i);
            }
            flow.to(i + 1, p, true);
        }
        if (jump(op)) {
            flow.to(code.get(i)[1], p, false);
        }
        return p;
    }

    int infer() {
        if (method == null) {
            throw state();
        }
        visits = 0;
        position = -1;
        inferred.clear();
        TreeMap<Integer, Picture> found = new TreeMap<>();
        try {
            examine();
            TreeSet<Integer> pending = new TreeSet<>();
            found.put(0, first());
            pending.add(0);
            while (!pending.isEmpty()) {
                int i = pending.pollFirst();
                process(i, found.get(i), (to, p, next) -> {
                    Picture old = found.get(to);
                    Picture now = old == null ? p.copy() : merged(i, old, p);
                    if (old == null || !now.same(old)) {
                        found.put(to, now);
                        pending.add(to);
                    }
                });
            }
        } catch (Fault f) {
            position = f.position;
            return f.kind;
        }
        inferred = found;
        return 0;
    }

    Picture merged(int i, Picture old, Picture p) throws Fault {
        Picture now = old.copy();
        if (old.stack.size() != p.stack.size()) {
            throw new Fault(8, i);
        }
        for (int k = 0; k < p.stack.size(); k++) {
            int a = old.stack.get(k);
            int b = p.stack.get(k);
            if (a != b && joined(a, b) == TOP) {
                throw new Fault(8, i);
            }
            now.stack.set(k, joined(a, b));
        }
        for (int k = 0; k < localCount; k++) {
            now.locals.set(k, joined(old.locals.get(k), p.locals.get(k)));
        }
        now.mark = old.mark | p.mark;
        return now;
    }

    int check() {
        if (method == null) {
            throw state();
        }
        visits = 0;
        position = -1;
        try {
            examine();
            Picture present = first();
            for (int i = 0; i < code.size(); i++) {
                Picture here = declared.get(i);
                if (here == null && present == null
                        || here != null && present != null && !pictureFits(present, here)) {
                    throw new Fault(10, i);
                }
                int at = i;
                present = process(i, here != null ? here : present, (to, p, next) -> {
                    if (!next && (!declared.containsKey(to) || !pictureFits(p, declared.get(to)))) {
                        throw new Fault(10, at);
                    }
                });
                if (ends(code.get(i)[0])) {
                    present = null;
                }
            }
        } catch (Fault f) {
            position = f.position;
            return f.kind;
        }
        return 0;
    }

    int errorPosition() {
        return position;
    }

    int visits() {
        return visits;
    }

    // ---- inferred frames

    boolean hasFrame(int index) {
        if (index < 0 || index >= code.size()) {
            throw new IndexOutOfBoundsException();
        }
        return inferred.containsKey(index);
    }

    Picture frame(int index) {
        if (!hasFrame(index)) {
            throw state();
        }
        return inferred.get(index);
    }

    int stackHeight(int index) {
        return frame(index).stack.size();
    }

    static int at(List<Integer> slots, int k) {
        if (k < 0 || k >= slots.size()) {
            throw new NoSuchElementException();
        }
        return slots.get(k);
    }

    int stackSlot(int index, int slot) {
        return at(frame(index).stack, slot);
    }

    int localSlot(int index, int local) {
        return at(frame(index).locals, local);
    }

    boolean isMarked(int index) {
        return frame(index).mark;
    }

    long digest() {
        List<Long> numbers = new ArrayList<>();
        for (int x : Arrays.asList(supers.size(), fields.size(), methods.size(), code.size(),
                handlers.size(), declared.size())) {
            numbers.add((long) x);
        }
        for (int i = 0; i < code.size(); i++) {
            numbers.add(hasFrame(i) ? 1L : 0L);
            if (hasFrame(i)) {
                Picture p = frame(i);
                numbers.add((long) p.stack.size());
                p.locals.forEach(v -> numbers.add((long) v));
                p.stack.forEach(v -> numbers.add((long) v));
                numbers.add(p.mark ? 1L : 0L);
            }
        }
        long d = 37;
        for (long x : numbers) {
            d = d * 31 + x;
        }
        return d;
    }
}
