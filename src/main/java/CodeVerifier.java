import java.util.NoSuchElementException;

/**
 * A bytecode verifier for a small stack machine with objects: it infers the frame before every
 * instruction, or checks the code against declared frames in one linear pass.
 */
public final class CodeVerifier {

    private static final int MAX_BASES = 20;
    private static final int MAX_FIELDS = 30;
    private static final int MAX_METHODS = 30;
    private static final int MAX_PARAMETER_SLOTS = 6;
    private static final int MAX_INSTRUCTIONS = 100;
    private static final int MAX_HANDLERS = 10;
    private static final int MAX_SLOTS = 12;
    private static final int MAX_DIMENSIONS = 4;

    /** The distance between the type numbers of two neighbouring bases. */
    private static final int TYPE_STEP = 8;
    private static final int OBJECT_BASE = 2;
    private static final int NO_BASE = -1;

    private static final int INT = 0;
    private static final int INT_ARRAY = 1;
    private static final int LONG = 8;
    private static final int OBJECT = 16;
    private static final int NULL = -1;
    private static final int TOP = -2;
    private static final int HIGH = -3;
    private static final int THIS = -4;
    private static final int FIRST_NEW = -10;

    private static final int VOID = -1;

    private static final int INSTANCE = 0;
    private static final int STATIC = 1;
    private static final int CONSTRUCTOR = 2;

    private static final int NO_ERROR = 0;
    private static final int BAD_OPERAND = 1;
    private static final int BAD_HANDLER = 2;
    private static final int STACK_TOO_LOW = 3;
    private static final int WRONG_VALUE = 4;
    private static final int WRONG_LOCAL = 5;
    private static final int STACK_TOO_HIGH = 6;
    private static final int NO_INSTRUCTION = 7;
    private static final int NO_COMMON_FRAME = 8;
    private static final int WRONG_RETURN = 9;
    private static final int FRAME_MISMATCH = 10;
    private static final int TOO_FEW_LOCALS = 11;

    private static final int NO_POSITION = -1;

    private final Types types;
    private final Members members;
    private final Code code;
    private final Frame draft;
    private int draftLocals;
    private final FrameTable inferred;
    private final FrameTable declared;
    private final Inference inference;
    private final LinearCheck linearCheck;
    private int lastPosition;
    private int lastVisits;

    public CodeVerifier() {
        types = new Types();
        members = new Members();
        code = new Code();
        draft = new Frame();
        draft.clear();
        draftLocals = 0;
        inferred = new FrameTable();
        declared = new FrameTable();
        inference = new Inference(types, members, code, inferred);
        linearCheck = new LinearCheck(types, members, code, declared);
        lastPosition = NO_POSITION;
        lastVisits = 0;
    }

    // ---- declarations

    public int declareClass(int superclass, boolean isInterface)
            throws IllegalArgumentException, IllegalStateException {
        if (!types.isClass(superclass) || isInterface && superclass != OBJECT_BASE) {
            throw new IllegalArgumentException("no superclass for this");
        }
        if (types.count >= MAX_BASES) {
            throw new IllegalStateException("too many bases");
        }
        return types.add(superclass, isInterface);
    }

    public int declareField(int owner, int type)
            throws IllegalArgumentException, IllegalStateException {
        if (!types.isClass(owner) || !types.isType(type)) {
            throw new IllegalArgumentException("no class or no type");
        }
        if (members.fieldCount >= MAX_FIELDS) {
            throw new IllegalStateException("too many fields");
        }
        return members.addField(owner, type);
    }

    public int parameter(int type) throws IllegalArgumentException, IllegalStateException {
        if (!types.isType(type)) {
            throw new IllegalArgumentException("no type");
        }
        if (members.pendingSlots + slotsOf(type) > MAX_PARAMETER_SLOTS) {
            throw new IllegalStateException("too many parameter slots");
        }
        return members.addParameter(type);
    }

    public int declareMethod(int owner, int kind, int result)
            throws IllegalArgumentException, IllegalStateException {
        if (!isMethodAllowed(owner, kind, result)) {
            members.dropParameters();
            throw new IllegalArgumentException("no such method can be declared");
        }
        if (members.methodCount >= MAX_METHODS) {
            members.dropParameters();
            throw new IllegalStateException("too many methods");
        }
        return members.addMethod(owner, kind, result);
    }

    private boolean isMethodAllowed(int owner, int kind, int result) {
        if (kind < INSTANCE || kind > CONSTRUCTOR) {
            return false;
        }
        if (!types.isClass(owner) && !(kind == INSTANCE && types.isInterface(owner))) {
            return false;
        }
        if (kind == CONSTRUCTOR) {
            return result == VOID;
        }
        return result == VOID || types.isType(result);
    }

    public boolean isAssignable(int from, int to) throws IllegalArgumentException {
        requireSlotValues(from, to);
        return types.fits(from, to);
    }

    public int join(int first, int second) throws IllegalArgumentException {
        requireSlotValues(first, second);
        return types.commonSlot(first, second);
    }

    private void requireSlotValues(int first, int second) {
        if (!types.isSlotValue(first) || !types.isSlotValue(second)) {
            throw new IllegalArgumentException("no slot value");
        }
    }

    // ---- code

    public int begin(int method, int maxStack, int locals)
            throws IndexOutOfBoundsException, IllegalArgumentException {
        if (!members.isMethod(method)) {
            throw new IndexOutOfBoundsException("no such method");
        }
        if (maxStack < 0 || maxStack > MAX_SLOTS || locals < 0 || locals > MAX_SLOTS
                || types.isInterface(members.methodOwners[method])) {
            throw new IllegalArgumentException("no such code can be started");
        }
        code.start(method, maxStack, locals);
        inferred.clear();
        declared.clear();
        return members.slotsNeeded(method);
    }

    public int emit(int op, int operand) throws IllegalArgumentException, IllegalStateException {
        if (op < Op.NOP || op > Op.INSTANCEOF) {
            throw new IllegalArgumentException("no such instruction");
        }
        if (!code.isStarted || code.count >= MAX_INSTRUCTIONS) {
            throw new IllegalStateException("no code, or too many instructions");
        }
        inferred.clear();
        return code.addInstruction(op, operand);
    }

    public int addHandler(int start, int end, int target, int caught)
            throws IllegalArgumentException, IllegalStateException {
        if (!types.isClass(caught)) {
            throw new IllegalArgumentException("no class");
        }
        if (!code.isStarted || code.handlerCount >= MAX_HANDLERS) {
            throw new IllegalStateException("no code, or too many handlers");
        }
        inferred.clear();
        return code.addProtection(start, end, target, caught);
    }

    public int instructionCount() {
        return code.count;
    }

    // ---- declared frames

    public int pushLocal(int value) throws IllegalArgumentException, IllegalStateException {
        if (!types.isSlotValue(value)) {
            throw new IllegalArgumentException("no slot value");
        }
        if (draftLocals >= MAX_SLOTS) {
            throw new IllegalStateException("too many pending local variables");
        }
        draft.locals[draftLocals] = value;
        draftLocals++;
        return draftLocals;
    }

    public int pushStack(int value) throws IllegalArgumentException, IllegalStateException {
        if (!types.isSlotValue(value)) {
            throw new IllegalArgumentException("no slot value");
        }
        if (draft.height >= MAX_SLOTS) {
            throw new IllegalStateException("too many pending stack slots");
        }
        draft.stack[draft.height] = value;
        draft.height++;
        return draft.height;
    }

    public int declareFrame(int index, boolean isMarked)
            throws IndexOutOfBoundsException, IllegalArgumentException {
        if (!code.isIndex(index)) {
            dropDraft();
            throw new IndexOutOfBoundsException("no such instruction");
        }
        if (draftLocals > code.locals || draft.height > code.maxStack || !draft.isWellFormed()) {
            dropDraft();
            throw new IllegalArgumentException("no frame of this code");
        }
        draft.marked = isMarked;
        declared.put(index, draft);
        dropDraft();
        return declared.count;
    }

    private void dropDraft() {
        draft.clear();
        draftLocals = 0;
    }

    public int adoptFrames() throws IllegalStateException {
        if (inferred.count == 0) {
            throw new IllegalStateException("no inferred frames");
        }
        declared.clear();
        adoptAtJumps();
        adoptAtHandlers();
        adoptBehindEnds();
        return declared.count;
    }

    private void adoptAtJumps() {
        for (int index = 0; index < code.count; index++) {
            if (inferred.contains(index) && Op.jumps(code.ops[index])) {
                adoptAt(code.operands[index]);
            }
        }
    }

    private void adoptAtHandlers() {
        for (int handler = 0; handler < code.handlerCount; handler++) {
            for (int index = 0; index < code.count; index++) {
                if (code.protects(handler, index) && inferred.contains(index)) {
                    adoptAt(code.targets[handler]);
                }
            }
        }
    }

    private void adoptBehindEnds() {
        for (int index = 1; index < code.count; index++) {
            if (!Op.fallsThrough(code.ops[index - 1])) {
                adoptAt(index);
            }
        }
    }

    private void adoptAt(int index) {
        if (inferred.contains(index)) {
            declared.put(index, inferred.frames[index]);
        }
    }

    // ---- verification

    public int infer() throws IllegalStateException {
        requireCode();
        int kind = inference.run();
        lastPosition = inference.position;
        lastVisits = inference.processed;
        return kind;
    }

    public int check() throws IllegalStateException {
        requireCode();
        int kind = linearCheck.run();
        lastPosition = linearCheck.position;
        lastVisits = linearCheck.processed;
        return kind;
    }

    private void requireCode() {
        if (!code.isStarted) {
            throw new IllegalStateException("no code was started");
        }
    }

    public int errorPosition() {
        return lastPosition;
    }

    public int visits() {
        return lastVisits;
    }

    // ---- inferred frames

    public boolean hasFrame(int index) throws IndexOutOfBoundsException {
        requireIndex(index);
        return inferred.contains(index);
    }

    public int stackHeight(int index) throws IndexOutOfBoundsException, IllegalStateException {
        requireFrame(index);
        return inferred.frames[index].height;
    }

    public int stackSlot(int index, int slot)
            throws IndexOutOfBoundsException, IllegalStateException, NoSuchElementException {
        requireFrame(index);
        if (slot < 0 || slot >= inferred.frames[index].height) {
            throw new NoSuchElementException("no such stack slot");
        }
        return inferred.frames[index].stack[slot];
    }

    public int localSlot(int index, int local)
            throws IndexOutOfBoundsException, IllegalStateException, NoSuchElementException {
        requireFrame(index);
        if (local < 0 || local >= code.locals) {
            throw new NoSuchElementException("no such local variable");
        }
        return inferred.frames[index].locals[local];
    }

    public boolean isMarked(int index) throws IndexOutOfBoundsException, IllegalStateException {
        requireFrame(index);
        return inferred.frames[index].marked;
    }

    private void requireIndex(int index) {
        if (!code.isIndex(index)) {
            throw new IndexOutOfBoundsException("no such instruction");
        }
    }

    private void requireFrame(int index) {
        requireIndex(index);
        if (!inferred.contains(index)) {
            throw new IllegalStateException("no inferred frame");
        }
    }

    public long digest() {
        long sum = 37;
        sum = sum * 31 + types.count;
        sum = sum * 31 + members.fieldCount;
        sum = sum * 31 + members.methodCount;
        sum = sum * 31 + code.count;
        sum = sum * 31 + code.handlerCount;
        sum = sum * 31 + declared.count;
        for (int index = 0; index < code.count; index++) {
            if (inferred.contains(index)) {
                sum = addFrame(sum * 31 + 1, inferred.frames[index]);
            } else {
                sum = sum * 31;
            }
        }
        return sum;
    }

    private long addFrame(long start, Frame frame) {
        long sum = start * 31 + frame.height;
        for (int local = 0; local < code.locals; local++) {
            sum = sum * 31 + frame.locals[local];
        }
        for (int slot = 0; slot < frame.height; slot++) {
            sum = sum * 31 + frame.stack[slot];
        }
        return sum * 31 + (frame.marked ? 1 : 0);
    }

    private static boolean isReferenceType(int value) {
        return value >= 0 && value != INT && value != LONG;
    }

    private static boolean isReference(int value) {
        return value == NULL || isReferenceType(value);
    }

    private static int slotsOf(int type) {
        return type == LONG ? 2 : 1;
    }

    /** The codes of the instructions. */
    private static final class Op {
        static final int NOP = 0;
        static final int ICONST = 1;
        static final int LCONST = 2;
        static final int ANULL = 3;
        static final int ILOAD = 4;
        static final int LLOAD = 5;
        static final int ALOAD = 6;
        static final int ISTORE = 7;
        static final int LSTORE = 8;
        static final int ASTORE = 9;
        static final int POP = 10;
        static final int POP2 = 11;
        static final int DUP = 12;
        static final int DUPX1 = 13;
        static final int DUP2 = 14;
        static final int SWAP = 15;
        static final int IADD = 16;
        static final int LADD = 17;
        static final int I2L = 18;
        static final int L2I = 19;
        static final int LCMP = 20;
        static final int IINC = 21;
        static final int GOTO = 22;
        static final int IFEQ = 23;
        static final int IFLT2 = 24;
        static final int IFNULL = 25;
        static final int IFSAME = 26;
        static final int IRETURN = 27;
        static final int LRETURN = 28;
        static final int ARETURN = 29;
        static final int RETURN = 30;
        static final int ATHROW = 31;
        static final int GETFIELD = 32;
        static final int PUTFIELD = 33;
        static final int NEW = 34;
        static final int INVOKESPECIAL = 35;
        static final int INVOKEVIRTUAL = 36;
        static final int INVOKESTATIC = 37;
        static final int NEWARRAY = 38;
        static final int IALOAD = 39;
        static final int IASTORE = 40;
        static final int AALOAD = 41;
        static final int AASTORE = 42;
        static final int ARRAYLENGTH = 43;
        static final int CHECKCAST = 44;
        static final int INSTANCEOF = 45;

        /** Whether the operand is an index to which the instruction can jump. */
        static boolean jumps(int op) {
            return op >= GOTO && op <= IFSAME;
        }

        /** Whether the next instruction is a successor. */
        static boolean fallsThrough(int op) {
            return op != GOTO && (op < IRETURN || op > ATHROW);
        }
    }

    /** The bases, and what follows from them about types and slot values. */
    private static final class Types {
        final int[] superclasses = new int[MAX_BASES];
        final boolean[] interfaces = new boolean[MAX_BASES];
        int count;

        Types() {
            count = OBJECT_BASE + 1;
            for (int base = 0; base < count; base++) {
                superclasses[base] = NO_BASE;
            }
        }

        int add(int superclass, boolean isInterface) {
            superclasses[count] = superclass;
            interfaces[count] = isInterface;
            count++;
            return count - 1;
        }

        boolean isClass(int base) {
            return base >= OBJECT_BASE && base < count && !interfaces[base];
        }

        boolean isInterface(int base) {
            return base >= OBJECT_BASE && base < count && interfaces[base];
        }

        boolean isType(int value) {
            return value >= 0 && value / TYPE_STEP < count && value % TYPE_STEP <= MAX_DIMENSIONS;
        }

        boolean isSlotValue(int value) {
            return isType(value)
                    || value <= NULL && value >= THIS
                    || value <= FIRST_NEW && value > FIRST_NEW - MAX_INSTRUCTIONS;
        }

        /** Whether a slot value is assignable to another one. */
        boolean fits(int from, int to) {
            if (from == to || to == TOP) {
                return true;
            }
            if (!isReferenceType(to)) {
                return false;
            }
            if (from == NULL) {
                return true;
            }
            if (!isReferenceType(from)) {
                return false;
            }
            int levels = Math.min(referenceLevels(from), referenceLevels(to));
            int source = from - levels;
            int goal = to - levels;
            if (goal % TYPE_STEP != 0) {
                return false;
            }
            if (goal == OBJECT || isInterface(goal / TYPE_STEP)) {
                return true;
            }
            return source % TYPE_STEP == 0 && inherits(source / TYPE_STEP, goal / TYPE_STEP);
        }

        /** The join of two slot values. */
        int commonSlot(int first, int second) {
            if (first == second) {
                return first;
            }
            if (!isReference(first) || !isReference(second)) {
                return TOP;
            }
            if (first == NULL) {
                return second;
            }
            if (second == NULL) {
                return first;
            }
            int levels = Math.min(referenceLevels(first), referenceLevels(second));
            int left = first - levels;
            int right = second - levels;
            if (left % TYPE_STEP != 0 || right % TYPE_STEP != 0) {
                return OBJECT + levels;
            }
            return TYPE_STEP * commonClass(left / TYPE_STEP, right / TYPE_STEP) + levels;
        }

        /** How often a reference type has an element type that is a reference type again. */
        private static int referenceLevels(int type) {
            int dimensions = type % TYPE_STEP;
            boolean endsPrimitive = type / TYPE_STEP < OBJECT_BASE;
            return endsPrimitive && dimensions > 0 ? dimensions - 1 : dimensions;
        }

        private int commonClass(int first, int second) {
            if (!isClass(first) || !isClass(second)) {
                return OBJECT_BASE;
            }
            int base = first;
            for (int step = 0; step < MAX_BASES && base != NO_BASE; step++) {
                if (inherits(second, base)) {
                    return base;
                }
                base = superclasses[base];
            }
            return OBJECT_BASE;
        }

        private boolean inherits(int from, int to) {
            int base = from;
            for (int step = 0; step < MAX_BASES && base != NO_BASE; step++) {
                if (base == to) {
                    return true;
                }
                base = superclasses[base];
            }
            return false;
        }

        /** Whether a frame is assignable to another one. */
        boolean frameFits(Frame from, Frame to) {
            if (from.height != to.height || from.marked && !to.marked) {
                return false;
            }
            for (int local = 0; local < MAX_SLOTS; local++) {
                if (!fits(from.locals[local], to.locals[local])) {
                    return false;
                }
            }
            for (int slot = 0; slot < from.height; slot++) {
                if (!fits(from.stack[slot], to.stack[slot])) {
                    return false;
                }
            }
            return true;
        }
    }

    /** The declared fields and methods, and the pending parameters. */
    private static final class Members {
        final int[] fieldOwners = new int[MAX_FIELDS];
        final int[] fieldTypes = new int[MAX_FIELDS];
        int fieldCount;
        final int[] methodOwners = new int[MAX_METHODS];
        final int[] methodKinds = new int[MAX_METHODS];
        final int[] methodResults = new int[MAX_METHODS];
        final int[] parameterCounts = new int[MAX_METHODS];
        final int[] parameterSlots = new int[MAX_METHODS];
        final int[] parameterTypes = new int[MAX_METHODS * MAX_PARAMETER_SLOTS];
        int methodCount;
        final int[] pendingTypes = new int[MAX_PARAMETER_SLOTS];
        int pendingCount;
        int pendingSlots;

        boolean isField(int field) {
            return field >= 0 && field < fieldCount;
        }

        boolean isMethod(int method) {
            return method >= 0 && method < methodCount;
        }

        boolean isMethodOfKind(int method, int kind) {
            return isMethod(method) && methodKinds[method] == kind;
        }

        int addField(int owner, int type) {
            fieldOwners[fieldCount] = owner;
            fieldTypes[fieldCount] = type;
            fieldCount++;
            return fieldCount - 1;
        }

        int addParameter(int type) {
            pendingTypes[pendingCount] = type;
            pendingCount++;
            pendingSlots += slotsOf(type);
            return pendingSlots;
        }

        void dropParameters() {
            pendingCount = 0;
            pendingSlots = 0;
        }

        int addMethod(int owner, int kind, int result) {
            methodOwners[methodCount] = owner;
            methodKinds[methodCount] = kind;
            methodResults[methodCount] = result;
            parameterCounts[methodCount] = pendingCount;
            parameterSlots[methodCount] = pendingSlots;
            System.arraycopy(pendingTypes, 0,
                    parameterTypes, methodCount * MAX_PARAMETER_SLOTS, pendingCount);
            dropParameters();
            methodCount++;
            return methodCount - 1;
        }

        int parameterType(int method, int number) {
            return parameterTypes[method * MAX_PARAMETER_SLOTS + number];
        }

        /** The slots of the first frame that the object and the parameters occupy. */
        int slotsNeeded(int method) {
            return parameterSlots[method] + (methodKinds[method] == STATIC ? 0 : 1);
        }
    }

    /** The instructions and the handlers of the present code. */
    private static final class Code {
        boolean isStarted;
        int method;
        int maxStack;
        int locals;
        final int[] ops = new int[MAX_INSTRUCTIONS];
        final int[] operands = new int[MAX_INSTRUCTIONS];
        int count;
        final int[] starts = new int[MAX_HANDLERS];
        final int[] ends = new int[MAX_HANDLERS];
        final int[] targets = new int[MAX_HANDLERS];
        final int[] caughtBases = new int[MAX_HANDLERS];
        int handlerCount;

        void start(int newMethod, int newMaxStack, int newLocals) {
            isStarted = true;
            method = newMethod;
            maxStack = newMaxStack;
            locals = newLocals;
            count = 0;
            handlerCount = 0;
        }

        int addInstruction(int op, int operand) {
            ops[count] = op;
            operands[count] = operand;
            count++;
            return count - 1;
        }

        int addProtection(int start, int end, int target, int caught) {
            starts[handlerCount] = start;
            ends[handlerCount] = end;
            targets[handlerCount] = target;
            caughtBases[handlerCount] = caught;
            handlerCount++;
            return handlerCount - 1;
        }

        boolean isIndex(int index) {
            return index >= 0 && index < count;
        }

        boolean protects(int handler, int index) {
            return starts[handler] <= index && index < ends[handler];
        }

        /** Whether the instruction at an index creates objects of a class. */
        boolean creates(int index, int base) {
            return isIndex(index) && ops[index] == Op.NEW && operands[index] == base;
        }
    }

    /** The local variables that the code does not have are TOP in every frame. */
    private static final class Frame {
        final int[] locals = new int[MAX_SLOTS];
        final int[] stack = new int[MAX_SLOTS];
        int height;
        boolean marked;

        void clear() {
            for (int local = 0; local < MAX_SLOTS; local++) {
                locals[local] = TOP;
            }
            height = 0;
            marked = false;
        }

        void copyFrom(Frame other) {
            System.arraycopy(other.locals, 0, locals, 0, MAX_SLOTS);
            System.arraycopy(other.stack, 0, stack, 0, MAX_SLOTS);
            height = other.height;
            marked = other.marked;
        }

        /** Takes the frame with which a handler begins when an exception leaves another frame. */
        void copyCaught(Frame other, int caughtBase) {
            copyFrom(other);
            stack[0] = TYPE_STEP * caughtBase;
            height = 1;
        }

        void replaceLocals(int value, int replacement) {
            for (int local = 0; local < MAX_SLOTS; local++) {
                if (locals[local] == value) {
                    locals[local] = replacement;
                }
            }
        }

        void replaceStack(int value, int replacement) {
            for (int slot = 0; slot < height; slot++) {
                if (stack[slot] == value) {
                    stack[slot] = replacement;
                }
            }
        }

        boolean hasOnStack(int value) {
            for (int slot = 0; slot < height; slot++) {
                if (stack[slot] == value) {
                    return true;
                }
            }
            return false;
        }

        boolean isWellFormed() {
            return arePaired(locals, MAX_SLOTS) && arePaired(stack, height);
        }

        private static boolean arePaired(int[] slots, int count) {
            boolean isHighDue = false;
            for (int slot = 0; slot < count; slot++) {
                if ((slots[slot] == HIGH) != isHighDue) {
                    return false;
                }
                isHighDue = slots[slot] == LONG;
            }
            return !isHighDue;
        }
    }

    /** Frames at some of the indices; the rows are made once and used for every code. */
    private static final class FrameTable {
        final Frame[] frames = new Frame[MAX_INSTRUCTIONS];
        final boolean[] filled = new boolean[MAX_INSTRUCTIONS];
        int count;

        FrameTable() {
            for (int index = 0; index < MAX_INSTRUCTIONS; index++) {
                frames[index] = new Frame();
            }
        }

        void clear() {
            for (int index = 0; index < MAX_INSTRUCTIONS; index++) {
                filled[index] = false;
            }
            count = 0;
        }

        boolean contains(int index) {
            return filled[index];
        }

        void put(int index, Frame frame) {
            if (!filled[index]) {
                filled[index] = true;
                count++;
            }
            frames[index].copyFrom(frame);
        }
    }

    /** Finds the errors that can be seen without a frame. */
    private static final class Examination {
        private final Types types;
        private final Members members;
        private final Code code;
        int position;

        Examination(Types types, Members members, Code code) {
            this.types = types;
            this.members = members;
            this.code = code;
            position = NO_POSITION;
        }

        int run() {
            position = 0;
            if (code.count == 0) {
                return NO_INSTRUCTION;
            }
            for (int index = 0; index < code.count; index++) {
                if (!isOperandAllowed(code.ops[index], code.operands[index])) {
                    position = index;
                    return BAD_OPERAND;
                }
            }
            for (int handler = 0; handler < code.handlerCount; handler++) {
                if (!isHandlerAllowed(handler)) {
                    position = handler;
                    return BAD_HANDLER;
                }
            }
            if (members.slotsNeeded(code.method) > code.locals) {
                return TOO_FEW_LOCALS;
            }
            position = NO_POSITION;
            return NO_ERROR;
        }

        private boolean isOperandAllowed(int op, int operand) {
            switch (op) {
                case Op.ILOAD:
                case Op.ALOAD:
                case Op.ISTORE:
                case Op.ASTORE:
                case Op.IINC:
                    return operand >= 0 && operand < code.locals;
                case Op.LLOAD:
                case Op.LSTORE:
                    return operand >= 0 && operand < code.locals - 1;
                case Op.GOTO:
                case Op.IFEQ:
                case Op.IFLT2:
                case Op.IFNULL:
                case Op.IFSAME:
                    return code.isIndex(operand);
                case Op.GETFIELD:
                case Op.PUTFIELD:
                    return members.isField(operand);
                case Op.NEW:
                    return types.isClass(operand);
                case Op.INVOKESPECIAL:
                    return members.isMethodOfKind(operand, CONSTRUCTOR);
                case Op.INVOKEVIRTUAL:
                    return members.isMethodOfKind(operand, INSTANCE);
                case Op.INVOKESTATIC:
                    return members.isMethodOfKind(operand, STATIC);
                case Op.NEWARRAY:
                    return types.isType(operand) && operand % TYPE_STEP < MAX_DIMENSIONS;
                case Op.CHECKCAST:
                case Op.INSTANCEOF:
                    return types.isType(operand) && isReferenceType(operand);
                default:
                    return true;
            }
        }

        private boolean isHandlerAllowed(int handler) {
            int start = code.starts[handler];
            int end = code.ends[handler];
            boolean isRange = start >= 0 && start < end && end <= code.count;
            if (!isRange || !code.isIndex(code.targets[handler])) {
                return false;
            }
            for (int inner = 0; inner < handler; inner++) {
                boolean isDisjoint = code.ends[inner] <= start || end <= code.starts[inner];
                boolean isInside = start <= code.starts[inner] && code.ends[inner] <= end;
                if (!isDisjoint && !isInside) {
                    return false;
                }
            }
            return true;
        }
    }

    /**
     * Executes one instruction on a frame. The first error stays, and nothing behind it changes
     * it: so an instruction can be written as the plain sequence of its pops and pushes.
     */
    private static final class Machine {
        private final Types types;
        private final Members members;
        private final Code code;
        private Frame frame;
        private int error;

        Machine(Types types, Members members, Code code) {
            this.types = types;
            this.members = members;
            this.code = code;
            frame = new Frame();
            error = NO_ERROR;
        }

        /** Changes the given frame in place; returns the kind of the error. */
        int execute(int index, Frame given) {
            frame = given;
            error = NO_ERROR;
            int op = code.ops[index];
            int operand = code.operands[index];
            if (op <= Op.ASTORE || op == Op.IINC) {
                executeLocal(op, operand);
            } else if (op <= Op.SWAP) {
                executeMove(op);
            } else if (op <= Op.IFSAME) {
                executeNumber(op);
            } else if (op <= Op.ATHROW) {
                executeEnd(op);
            } else if (op == Op.NEW) {
                create(FIRST_NEW - index);
            } else if (op >= Op.INVOKESPECIAL && op <= Op.INVOKESTATIC) {
                call(op, operand);
            } else if (op >= Op.NEWARRAY && op <= Op.ARRAYLENGTH) {
                executeArray(op, operand);
            } else {
                executeObject(op, operand);
            }
            return error;
        }

        private void executeLocal(int op, int operand) {
            switch (op) {
                case Op.ICONST:
                    push(INT);
                    break;
                case Op.LCONST:
                    pushOfType(LONG);
                    break;
                case Op.ANULL:
                    push(NULL);
                    break;
                case Op.ILOAD:
                    require(frame.locals[operand] == INT, WRONG_LOCAL);
                    push(INT);
                    break;
                case Op.LLOAD:
                    require(frame.locals[operand] == LONG, WRONG_LOCAL);
                    pushOfType(LONG);
                    break;
                case Op.ALOAD:
                    require(isAnyReference(frame.locals[operand]), WRONG_LOCAL);
                    push(frame.locals[operand]);
                    break;
                case Op.ISTORE:
                    popOfType(INT);
                    store(operand, INT);
                    break;
                case Op.LSTORE:
                    popOfType(LONG);
                    store(operand, LONG);
                    store(operand + 1, HIGH);
                    break;
                case Op.ASTORE:
                    store(operand, popAnyReference());
                    break;
                case Op.IINC:
                    require(frame.locals[operand] == INT, WRONG_LOCAL);
                    break;
                default:
                    break;
            }
        }

        private void executeMove(int op) {
            if (op == Op.POP2 || op == Op.DUP2) {
                movePair(op);
                return;
            }
            int upper = popWhole();
            switch (op) {
                case Op.DUP:
                    push(upper);
                    push(upper);
                    break;
                case Op.DUPX1:
                    int below = popWhole();
                    push(upper);
                    push(below);
                    push(upper);
                    break;
                case Op.SWAP:
                    int lower = popWhole();
                    push(upper);
                    push(lower);
                    break;
                default:
                    break;
            }
        }

        /** POP2 and DUP2 take both slots at once, as they may be those of one LONG. */
        private void movePair(int op) {
            int upper = popSlot();
            int lower = popSlot();
            require(lower == LONG || isWhole(lower) && isWhole(upper), WRONG_VALUE);
            if (op == Op.DUP2) {
                push(lower);
                push(upper);
                push(lower);
                push(upper);
            }
        }

        private void executeNumber(int op) {
            switch (op) {
                case Op.IADD:
                    popOfType(INT);
                    popOfType(INT);
                    push(INT);
                    break;
                case Op.LADD:
                    popOfType(LONG);
                    popOfType(LONG);
                    pushOfType(LONG);
                    break;
                case Op.I2L:
                    popOfType(INT);
                    pushOfType(LONG);
                    break;
                case Op.L2I:
                    popOfType(LONG);
                    push(INT);
                    break;
                case Op.LCMP:
                    popOfType(LONG);
                    popOfType(LONG);
                    push(INT);
                    break;
                case Op.IFEQ:
                    popOfType(INT);
                    break;
                case Op.IFLT2:
                    popOfType(INT);
                    popOfType(INT);
                    break;
                case Op.IFNULL:
                    popAnyReference();
                    break;
                case Op.IFSAME:
                    popAnyReference();
                    popAnyReference();
                    break;
                default:
                    break;
            }
        }

        private void executeEnd(int op) {
            int result = members.methodResults[code.method];
            switch (op) {
                case Op.IRETURN:
                    popOfType(INT);
                    require(result == INT, WRONG_RETURN);
                    break;
                case Op.LRETURN:
                    popOfType(LONG);
                    require(result == LONG, WRONG_RETURN);
                    break;
                case Op.ARETURN:
                    int value = popReference();
                    require(isReferenceType(result) && types.fits(value, result), WRONG_RETURN);
                    break;
                case Op.RETURN:
                    require(result == VOID && !frame.marked, WRONG_RETURN);
                    break;
                default:
                    popReference();
                    break;
            }
        }

        private void executeObject(int op, int operand) {
            switch (op) {
                case Op.GETFIELD:
                    popOfType(TYPE_STEP * members.fieldOwners[operand]);
                    pushOfType(members.fieldTypes[operand]);
                    break;
                case Op.PUTFIELD:
                    popOfType(members.fieldTypes[operand]);
                    popFieldObject(members.fieldOwners[operand]);
                    break;
                case Op.CHECKCAST:
                    popReference();
                    push(operand);
                    break;
                default:
                    popReference();
                    push(INT);
                    break;
            }
        }

        private void executeArray(int op, int operand) {
            switch (op) {
                case Op.NEWARRAY:
                    popOfType(INT);
                    push(operand + 1);
                    break;
                case Op.IALOAD:
                    popOfType(INT);
                    popOfType(INT_ARRAY);
                    push(INT);
                    break;
                case Op.IASTORE:
                    popOfType(INT);
                    popOfType(INT);
                    popOfType(INT_ARRAY);
                    break;
                case Op.AALOAD:
                    popOfType(INT);
                    int array = popReferenceArray();
                    push(array == NULL ? NULL : array - 1);
                    break;
                case Op.AASTORE:
                    popReference();
                    popOfType(INT);
                    popReferenceArray();
                    break;
                default:
                    int measured = popSlot();
                    require(measured == NULL || isArrayType(measured), WRONG_VALUE);
                    push(INT);
                    break;
            }
        }

        private void create(int value) {
            require(!frame.hasOnStack(value), WRONG_VALUE);
            frame.replaceLocals(value, TOP);
            push(value);
        }

        private void call(int op, int method) {
            for (int number = members.parameterCounts[method] - 1; number >= 0; number--) {
                popOfType(members.parameterType(method, number));
            }
            if (op == Op.INVOKESPECIAL) {
                initialize(members.methodOwners[method]);
                return;
            }
            if (op == Op.INVOKEVIRTUAL) {
                popOfType(TYPE_STEP * members.methodOwners[method]);
            }
            if (members.methodResults[method] != VOID) {
                pushOfType(members.methodResults[method]);
            }
        }

        private void initialize(int constructed) {
            int owner = members.methodOwners[code.method];
            int object = popSlot();
            boolean isThis = object == THIS;
            boolean isAllowed;
            if (isThis) {
                isAllowed = constructed == owner || constructed == types.superclasses[owner];
            } else {
                isAllowed = object <= FIRST_NEW && code.creates(FIRST_NEW - object, constructed);
            }
            require(isAllowed, WRONG_VALUE);
            if (error == NO_ERROR) {
                int initialized = TYPE_STEP * (isThis ? owner : constructed);
                frame.replaceLocals(object, initialized);
                frame.replaceStack(object, initialized);
                frame.marked = frame.marked && !isThis;
            }
        }

        private void popFieldObject(int owner) {
            int object = popSlot();
            boolean isOwnObject = object == THIS && owner == members.methodOwners[code.method];
            require(isOwnObject || types.fits(object, TYPE_STEP * owner), WRONG_VALUE);
        }

        private int popAnyReference() {
            int value = popSlot();
            require(isAnyReference(value), WRONG_VALUE);
            return value;
        }

        private int popReference() {
            int value = popSlot();
            require(isReference(value), WRONG_VALUE);
            return value;
        }

        private int popReferenceArray() {
            int value = popSlot();
            boolean isAllowed = value == NULL || isArrayType(value) && isReferenceType(value - 1);
            require(isAllowed, WRONG_VALUE);
            return value;
        }

        private int popWhole() {
            int value = popSlot();
            require(isWhole(value), WRONG_VALUE);
            return value;
        }

        /** Pops a value that is assignable to a type. */
        private void popOfType(int type) {
            if (type == LONG) {
                int upper = popSlot();
                int lower = popSlot();
                require(lower == LONG && upper == HIGH, WRONG_VALUE);
            } else {
                int value = popSlot();
                require(types.fits(value, type), WRONG_VALUE);
            }
        }

        private int popSlot() {
            require(frame.height >= 1, STACK_TOO_LOW);
            if (error != NO_ERROR) {
                return TOP;
            }
            frame.height--;
            return frame.stack[frame.height];
        }

        private void pushOfType(int type) {
            push(type);
            if (type == LONG) {
                push(HIGH);
            }
        }

        private void push(int value) {
            require(frame.height < code.maxStack, STACK_TOO_HIGH);
            if (error == NO_ERROR) {
                frame.stack[frame.height] = value;
                frame.height++;
            }
        }

        private void store(int local, int value) {
            breakLong(local);
            frame.locals[local] = value;
        }

        /** The half of a LONG that is left when the other one is overwritten can't be used. */
        private void breakLong(int local) {
            if (frame.locals[local] == HIGH && local > 0) {
                frame.locals[local - 1] = TOP;
            }
            if (frame.locals[local] == LONG && local < MAX_SLOTS - 1) {
                frame.locals[local + 1] = TOP;
            }
        }

        private void require(boolean isFulfilled, int kind) {
            if (error == NO_ERROR && !isFulfilled) {
                error = kind;
            }
        }

        private static boolean isAnyReference(int value) {
            return isReferenceType(value) || value == NULL || value == THIS || value <= FIRST_NEW;
        }

        private static boolean isArrayType(int value) {
            return value >= 0 && value % TYPE_STEP > 0;
        }

        /** Whether a slot does not belong to a LONG. */
        private static boolean isWhole(int value) {
            return value != LONG && value != HIGH;
        }
    }

    /** What inference and checking have in common: how one instruction is processed. */
    private abstract static class Analysis {
        final Code code;
        final Types types;
        final Frame present = new Frame();
        int position;
        int processed;
        private final Members members;
        private final Examination examination;
        private final Machine machine;
        private final Frame caught = new Frame();

        Analysis(Types types, Members members, Code code) {
            this.types = types;
            this.members = members;
            this.code = code;
            examination = new Examination(types, members, code);
            machine = new Machine(types, members, code);
            position = NO_POSITION;
            processed = 0;
        }

        /** Lets a frame flow to an index; returns the kind of the error. */
        abstract int flow(int index, Frame frame, boolean isNext);

        int examine() {
            int kind = examination.run();
            position = examination.position;
            processed = 0;
            return kind;
        }

        void makeFirstFrame(Frame frame) {
            frame.clear();
            int method = code.method;
            int owner = members.methodOwners[method];
            int local = 0;
            if (members.methodKinds[method] != STATIC) {
                boolean isNew = members.methodKinds[method] == CONSTRUCTOR && owner != OBJECT_BASE;
                frame.locals[0] = isNew ? THIS : TYPE_STEP * owner;
                frame.marked = isNew;
                local = 1;
            }
            for (int number = 0; number < members.parameterCounts[method]; number++) {
                int type = members.parameterType(method, number);
                frame.locals[local] = type;
                if (type == LONG) {
                    frame.locals[local + 1] = HIGH;
                }
                local += slotsOf(type);
            }
        }

        /** Processes an instruction with the present frame, which becomes the frame behind it. */
        int process(int index) {
            processed++;
            int kind = flowToHandlers(index);
            if (kind == NO_ERROR) {
                kind = machine.execute(index, present);
            }
            if (kind == NO_ERROR) {
                kind = flowToSuccessors(index);
            }
            if (kind != NO_ERROR) {
                position = index;
            }
            return kind;
        }

        private int flowToHandlers(int index) {
            for (int handler = 0; handler < code.handlerCount; handler++) {
                if (code.protects(handler, index)) {
                    if (code.maxStack == 0) {
                        return STACK_TOO_HIGH;
                    }
                    caught.copyCaught(present, code.caughtBases[handler]);
                    int kind = flow(code.targets[handler], caught, false);
                    if (kind != NO_ERROR) {
                        return kind;
                    }
                }
            }
            return NO_ERROR;
        }

        private int flowToSuccessors(int index) {
            int op = code.ops[index];
            int kind = NO_ERROR;
            if (Op.fallsThrough(op)) {
                kind = code.isIndex(index + 1) ? flow(index + 1, present, true) : NO_INSTRUCTION;
            }
            if (kind == NO_ERROR && Op.jumps(op)) {
                kind = flow(code.operands[index], present, false);
            }
            return kind;
        }
    }

    /** Infers the frames by data-flow analysis. */
    private static final class Inference extends Analysis {

        /** No run comes near it: each round but the first ones goes back to a slot that rose. */
        private static final int MAX_ROUNDS = 1000000;

        private final FrameTable inferred;
        private final boolean[] pending = new boolean[MAX_INSTRUCTIONS];

        Inference(Types types, Members members, Code code, FrameTable inferred) {
            super(types, members, code);
            this.inferred = inferred;
        }

        int run() {
            inferred.clear();
            int kind = examine();
            if (kind == NO_ERROR) {
                setFirstFrame();
            }
            for (int round = 0; round < MAX_ROUNDS && kind == NO_ERROR; round++) {
                int index = takePending();
                if (index < 0) {
                    return NO_ERROR;
                }
                // a handler may flow back to its own range, so the stored frame is not worked on
                present.copyFrom(inferred.frames[index]);
                kind = process(index);
            }
            inferred.clear();
            return kind;
        }

        private void setFirstFrame() {
            for (int index = 0; index < MAX_INSTRUCTIONS; index++) {
                pending[index] = false;
            }
            makeFirstFrame(present);
            inferred.put(0, present);
            pending[0] = true;
        }

        private int takePending() {
            for (int index = 0; index < code.count; index++) {
                if (pending[index]) {
                    pending[index] = false;
                    return index;
                }
            }
            return -1;
        }

        int flow(int index, Frame frame, boolean isNext) {
            if (!inferred.contains(index)) {
                inferred.put(index, frame);
                pending[index] = true;
                return NO_ERROR;
            }
            Frame known = inferred.frames[index];
            if (known.height != frame.height) {
                return NO_COMMON_FRAME;
            }
            boolean isChanged = frame.marked && !known.marked;
            known.marked = known.marked || frame.marked;
            for (int slot = 0; slot < known.height; slot++) {
                int joined = types.commonSlot(known.stack[slot], frame.stack[slot]);
                if (joined == TOP && known.stack[slot] != frame.stack[slot]) {
                    return NO_COMMON_FRAME;
                }
                isChanged = isChanged || joined != known.stack[slot];
                known.stack[slot] = joined;
            }
            for (int local = 0; local < MAX_SLOTS; local++) {
                int joined = types.commonSlot(known.locals[local], frame.locals[local]);
                isChanged = isChanged || joined != known.locals[local];
                known.locals[local] = joined;
            }
            pending[index] = pending[index] || isChanged;
            return NO_ERROR;
        }
    }

    /** Checks the code against the declared frames, each instruction once. */
    private static final class LinearCheck extends Analysis {
        private final FrameTable declared;

        LinearCheck(Types types, Members members, Code code, FrameTable declared) {
            super(types, members, code);
            this.declared = declared;
        }

        int run() {
            int kind = examine();
            if (kind != NO_ERROR) {
                return kind;
            }
            makeFirstFrame(present);
            boolean isReached = true;
            for (int index = 0; index < code.count && kind == NO_ERROR; index++) {
                if (enter(index, isReached)) {
                    kind = process(index);
                } else {
                    kind = FRAME_MISMATCH;
                    position = index;
                }
                isReached = Op.fallsThrough(code.ops[index]);
            }
            return kind;
        }

        /** Takes the frame declared at an index; returns whether an allowed frame is present. */
        private boolean enter(int index, boolean isReached) {
            if (!declared.contains(index)) {
                return isReached;
            }
            if (isReached && !types.frameFits(present, declared.frames[index])) {
                return false;
            }
            present.copyFrom(declared.frames[index]);
            return true;
        }

        int flow(int index, Frame frame, boolean isNext) {
            // to the next instruction the frame goes as the present one, which enter looks at
            if (isNext) {
                return NO_ERROR;
            }
            boolean isDeclared = declared.contains(index)
                    && types.frameFits(frame, declared.frames[index]);
            return isDeclared ? NO_ERROR : FRAME_MISMATCH;
        }
    }
}
