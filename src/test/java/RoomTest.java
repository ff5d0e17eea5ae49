import java.lang.reflect.Array;
import java.lang.reflect.Field;
import java.lang.reflect.Modifier;
import java.util.ArrayDeque;
import java.util.IdentityHashMap;

/** How much room an object takes: what it holds, counted as objects and arrays, fields and elements. */
final class RoomTest {
    /** All calls of a run have 600,000 objects and 7.3 million elements: here each call could make a verifier. */
    private static final int MOST_OBJECTS = 600_000 / 512;
    private static final int MOST_ELEMENTS = 7_300_000 / 512;

    private static int objects;
    private static int elements;

    private RoomTest() {
    }

    public static void main(String[] args) throws IllegalAccessException {
        CodeVerifier verifier = new CodeVerifier();
        count(verifier);
        Run.same("objects are few: " + objects, objects <= MOST_OBJECTS, true);
        Run.same("elements are few: " + elements, elements <= MOST_ELEMENTS, true);
        int objectsBefore = objects;
        int elementsBefore = elements;
        useAll(verifier);
        count(verifier);
        Run.same("no more objects after calls: " + objects, objects <= objectsBefore, true);
        Run.same("no more elements after calls: " + elements, elements <= elementsBefore, true);
        Run.end();
    }

    /** Fills every table: a code of 100 instructions with 10 handlers, with a frame at each index. */
    private static void useAll(CodeVerifier verifier) {
        for (int base = 3; base < 20; base++) {
            verifier.declareClass(2, false);
        }
        for (int number = 0; number < 30; number++) {
            verifier.declareField(2, 0);
            verifier.parameter(8);
            verifier.declareMethod(2, 1, -1);
        }
        verifier.begin(0, 12, 12);
        for (int index = 0; index < 99; index++) {
            verifier.emit(0, 0);
        }
        verifier.emit(22, 0);
        for (int handler = 0; handler < 10; handler++) {
            verifier.addHandler(98, 99, 99, 2);
        }
        Run.same("infer", verifier.infer(), 8);
        verifier.begin(0, 12, 12);
        for (int index = 0; index < 100; index++) {
            verifier.emit(22, (index + 1) % 100);
        }
        Run.same("infer", verifier.infer(), 0);
        Run.same("adoptFrames", verifier.adoptFrames(), 100);
        Run.same("check", verifier.check(), 0);
    }

    private static void count(CodeVerifier verifier) throws IllegalAccessException {
        objects = 0;
        elements = 0;
        IdentityHashMap<Object, Boolean> seen = new IdentityHashMap<>();
        ArrayDeque<Object> waiting = new ArrayDeque<>();
        note(verifier, seen, waiting);
        while (!waiting.isEmpty()) {
            Object next = waiting.remove();
            if (next.getClass().isArray()) {
                countArray(next, seen, waiting);
            } else {
                countFields(next, seen, waiting);
            }
        }
    }

    private static void note(Object found, IdentityHashMap<Object, Boolean> seen, ArrayDeque<Object> waiting) {
        if (found != null && seen.put(found, true) == null) {
            objects++;
            waiting.add(found);
        }
    }

    private static void countArray(Object array, IdentityHashMap<Object, Boolean> seen, ArrayDeque<Object> waiting) {
        elements += Array.getLength(array);
        if (!array.getClass().getComponentType().isPrimitive()) {
            for (Object element : (Object[]) array) {
                note(element, seen, waiting);
            }
        }
    }

    private static void countFields(Object object, IdentityHashMap<Object, Boolean> seen, ArrayDeque<Object> waiting)
            throws IllegalAccessException {
        for (Class<?> c = object.getClass(); c != Object.class; c = c.getSuperclass()) {
            for (Field field : c.getDeclaredFields()) {
                if (!Modifier.isStatic(field.getModifiers())) {
                    field.setAccessible(true);
                    elements++;
                    if (!field.getType().isPrimitive()) {
                        note(field.get(object), seen, waiting);
                    }
                }
            }
        }
    }
}
