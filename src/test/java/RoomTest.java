import java.lang.reflect.Array;
import java.lang.reflect.Field;
import java.lang.reflect.Modifier;
import java.util.ArrayDeque;
import java.util.Deque;
import java.util.IdentityHashMap;
import java.util.Map;

/**
 * What a run makes lives in one room of some 600,000 objects and arrays with 7.3 million fields and
 * elements: a valley takes little of it, also as it is made again and again, and a full one no more.
 */
public final class RoomTest {
    private static final int OBJECTS = 600_000;
    private static final int ELEMENTS = 7_300_000;
    private static final int CALLS = 512;
    private static final int VALLEYS = 400;

    private record Size(int objects, int elements) {
    }

    public static void main(String[] args) throws Exception {
        TimberValley x = new TimberValley();
        Size made = sizeOf(x);
        System.out.println("a new valley: " + made);
        Check.yes("objects of " + made, made.objects * VALLEYS < OBJECTS);
        Check.yes("elements of " + made, made.elements * VALLEYS < ELEMENTS);
        fill(x);
        Size full = sizeOf(x);
        System.out.println("a full valley: " + full);
        // A log, a way or a crew is all that a call may leave behind.
        Check.yes("objects of " + full, full.objects - made.objects <= 300 * 5 + 40 + 20);
        Check.yes("elements of " + full, full.elements - made.elements <= 300 * 40 + 40 * 5 + 20 * 5);
        askAll(x);
        Check.is("objects after questions", full.objects, sizeOf(x).objects);
        Check.is("elements after questions", full.elements, sizeOf(x).elements);
        Check.end();
    }

    private static void fill(TimberValley x) {
        for (int i = 0; i < 20; i++) {
            x.crew(i % 10);
        }
        for (int i = 0; i < 40; i++) {
            x.way(i % 5, 9, 8);
        }
        x.stand(9, 0, 3, 200);
        for (int i = 0; i < 60; i++) {
            Check.is("five logs", 5, x.fall(0, 9, 0, 3, 22222));
        }
        for (int i = 0; i < 20; i++) {
            Check.is("law", 1, Check.law(x, 0, "pay 2 if day=0;"));
        }
        Check.is("logs", 300, x.count(1));
    }

    private static void askAll(TimberValley x) {
        for (int i = 0; i < 9; i++) {
            x.spur(1 << i, 1, 1);
            x.order(2, 2, 9, 9, 9);
        }
        for (int i = 0; i < CALLS / 16; i++) {
            x.day();
            x.buck(0, 3);
            x.rails(7);
            x.railsOf(7, 2);
            x.forty(3, 3, 3, 3, 0, 60, 0);
            x.best(0);
            x.fire(9, 0, 20);
            x.checked(0, 0);
            x.knew(0, 0, 0);
            x.row(0, true, 40);
            x.cruise(0, 0);
            x.found(0, 0, 5);
            x.hand(0, 0);
            x.count(13);
            x.carry(0);
            x.why(0, 0, 0, 0);
        }
    }

    private static Size sizeOf(Object root) throws IllegalAccessException {
        Map<Object, Boolean> seen = new IdentityHashMap<>();
        Deque<Object> open = new ArrayDeque<>();
        meet(root, seen, open);
        int elements = 0;
        while (!open.isEmpty()) {
            Object one = open.pop();
            elements += one.getClass().isArray() ? elementsOf(one, seen, open) : fieldsOf(one, seen, open);
        }
        return new Size(seen.size(), elements);
    }

    private static void meet(Object one, Map<Object, Boolean> seen, Deque<Object> open) {
        if (one != null && seen.put(one, true) == null) {
            open.push(one);
        }
    }

    private static int elementsOf(Object array, Map<Object, Boolean> seen, Deque<Object> open) {
        int length = Array.getLength(array);
        if (!array.getClass().getComponentType().isPrimitive()) {
            for (int i = 0; i < length; i++) {
                meet(Array.get(array, i), seen, open);
            }
        }
        return length;
    }

    private static int fieldsOf(Object one, Map<Object, Boolean> seen, Deque<Object> open)
            throws IllegalAccessException {
        int fields = 0;
        for (Field field : one.getClass().getDeclaredFields()) {
            if (!Modifier.isStatic(field.getModifiers())) {
                fields++;
                if (!field.getType().isPrimitive()) {
                    field.setAccessible(true);
                    meet(field.get(one), seen, open);
                }
            }
        }
        return fields;
    }
}
