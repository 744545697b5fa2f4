import java.lang.reflect.Array;
import java.lang.reflect.Field;
import java.lang.reflect.Modifier;
import java.util.ArrayDeque;
import java.util.IdentityHashMap;
import java.util.Map;

/** The room of one object: what the constructor makes is little, and no call makes, loses or changes an object of it. */
public final class RoomTest {
    private static final int MOST_OBJECTS = 200;
    private static final int MOST_NUMBERS = 6000;

    public static void main(String[] args) throws IllegalAccessException {
        Check check = new Check("RoomTest");
        SteepleWords x = new SteepleWords();
        Map<Object, Object> before = held(x);
        check.isTrue("objects and arrays: " + before.size(), before.size() <= MOST_OBJECTS);
        check.isTrue("fields and elements: " + numbers(before), numbers(before) <= MOST_NUMBERS);
        useEveryCall(x);
        Map<Object, Object> then = held(x);
        check.due("objects and arrays behind the calls", then.size(), before.size());
        check.isTrue("they are the ones that the constructor made", before.keySet().containsAll(then.keySet()));
        check.end();
    }

    /** Every call of the face, actions and what is remembered of them more often than there are states. */
    private static void useEveryCall(SteepleWords x) {
        for (int i = 0; i < 20; i++) {
            int s = i % 3;
            States.word(x, s, i % 6, 90 + i, 100 + i);
            x.measure(s, (i + 1) % 6, 0, 6, 4, 80 + i, 2);
            x.set(i % 2, i % 6);
            x.trust(i % 6, i % 10);
            x.evening();
            x.apart(0, 0);
            x.against(s);
            x.vote(s, 95);
            x.without(0, 0);
            x.swings(i % 6, s);
            x.truest();
            x.runScript(3, 100100400009500100L);
            x.simulate(i, 60);
            x.save(i % 2);
            x.drop(0);
            x.survey(s, 100);
            x.undo();
            x.survey(s, 100);
        }
        Check.outcome(() -> x.restore(2));
        x.restore(1);
        Telling.of(x);
        States.write(x, "Pw00100110qv0105");
        x.load();
        x.clearText();
    }

    /** All objects and arrays that can be reached from x, but for those that stand in static fields. */
    private static Map<Object, Object> held(Object x) throws IllegalAccessException {
        Map<Object, Object> held = new IdentityHashMap<>();
        ArrayDeque<Object> ahead = new ArrayDeque<>();
        ahead.add(x);
        while (!ahead.isEmpty()) {
            Object o = ahead.remove();
            if (held.put(o, o) != null) {
                continue;
            }
            if (o instanceof Object[]) {
                for (Object part : (Object[]) o) {
                    addTo(ahead, part);
                }
            } else if (!o.getClass().isArray()) {
                addFields(ahead, o);
            }
        }
        return held;
    }

    private static void addFields(ArrayDeque<Object> ahead, Object o) throws IllegalAccessException {
        for (Field f : o.getClass().getDeclaredFields()) {
            if (!Modifier.isStatic(f.getModifiers()) && !f.getType().isPrimitive()) {
                f.setAccessible(true);
                addTo(ahead, f.get(o));
            }
        }
    }

    private static void addTo(ArrayDeque<Object> ahead, Object part) {
        if (part != null) {
            ahead.add(part);
        }
    }

    private static int numbers(Map<Object, Object> held) {
        int numbers = 0;
        for (Object o : held.keySet()) {
            if (o.getClass().isArray()) {
                numbers += Array.getLength(o);
                continue;
            }
            for (Field f : o.getClass().getDeclaredFields()) {
                numbers += Modifier.isStatic(f.getModifiers()) ? 0 : 1;
            }
        }
        return numbers;
    }
}
