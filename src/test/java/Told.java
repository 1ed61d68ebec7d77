import java.lang.reflect.Array;
import java.lang.reflect.Constructor;
import java.lang.reflect.Field;
import java.lang.reflect.Method;
import java.lang.reflect.Modifier;
import java.util.ArrayList;
import java.util.HashMap;
import java.util.IdentityHashMap;
import java.util.LinkedHashMap;
import java.util.List;
import java.util.Map;

/**
 * All that an object's calls can tell of its state, by name: "fraction", "fault", "trays", "tape", "world",
 * "order", "building", "marks". Two objects that tell the same can't be known one from the other.
 */
final class Told {
    private static final Map<String, Method> METHODS = new HashMap<>();

    private Told() {
    }

    /** Of a copy, so that the object itself is not asked: its STATUS stays. */
    static Map<String, List<Long>> of(NineSights x) {
        return ofGiven(copy(x));
    }

    /** Of the object itself, a NineSights or a SlowModel, which is of no use behind it. */
    static Map<String, List<Long>> ofGiven(Object o) {
        Map<String, List<Long>> told = new LinkedHashMap<>();
        told.put("fraction", List.of(ask(o, "top"), ask(o, "bottom")));
        told.put("fault", List.of(ask(o, "fault", 0), ask(o, "fault", 1)));
        told.put("order", row(o, "orderAt", -1, 13));
        told.put("building", row(o, "building", 0, 3));
        told.put("trays", trays(o));
        List<Long> world = town(o);
        List<Long> marks = new ArrayList<>();
        world.addAll(orders(o));
        for (int m = 0; m < 4; m++) {
            note(marks, o, "back");
            marks.addAll(town(o));
            marks.addAll(orders(o));
        }
        told.put("world", world);
        told.put("marks", marks);
        told.put("tape", tape(o));
        return told;
    }

    private static void note(List<Long> told, Object o, String name, long... args) {
        told.add(ask(o, name, args));
        told.add(ask(o, "status"));
    }

    private static List<Long> row(Object o, String name, int from, int end) {
        List<Long> told = new ArrayList<>();
        for (int k = from; k < end; k++) {
            note(told, o, name, k);
        }
        return told;
    }

    private static List<Long> trays(Object o) {
        List<Long> told = new ArrayList<>();
        for (int t = 0; t < 4; t++) {
            for (int p = 0; p <= 60; p++) {
                note(told, o, "read", t, p);
            }
        }
        // a sort is known by what it cuts off, and by what may be poured where
        for (int t = 0; t < 4; t++) {
            ask(o, "write", t, 0, 0x7766554433221180L);
            note(told, o, "read", t, 0);
        }
        for (int t = 0; t < 3; t++) {
            for (int sort = 0; sort < 4; sort++) {
                ask(o, "tray", 3, sort, 0);
                note(told, o, "pour", t, 0, 3, 0, 0);
            }
        }
        return told;
    }

    private static List<Long> town(Object o) {
        List<Long> told = new ArrayList<>(row(o, "many", 0, 3));
        for (int c = 0; c <= 25; c++) {
            note(told, o, "height", c);
            for (int what = 0; what < 3; what++) {
                note(told, o, "cell", c, what);
            }
        }
        for (int v = 0; v <= 6; v++) {
            for (int what = 0; what < 3; what++) {
                note(told, o, "village", v, what);
            }
            for (int s = 0; s <= 9; s++) {
                note(told, o, "promised", v, s);
            }
        }
        return told;
    }

    /** By what they do, twice, as a test may hold only the second time. */
    private static List<Long> orders(Object o) {
        List<Long> told = new ArrayList<>();
        for (int seed = 0; seed < 2; seed++) {
            note(told, o, "built", seed);
            told.addAll(row(o, "building", 0, 3));
            told.addAll(row(o, "height", 0, 25));
        }
        return told;
    }

    /** How many bytes, and what they are if a PLAIN is read from them. */
    private static List<Long> tape(Object o) {
        List<Long> told = new ArrayList<>();
        long fed = ask(o, "feed", 0x20202020, 0x20202020, 0x20202020, 0x20202020, 0x20202020);
        long bytes = fed < 0 ? 900 : fed - 20;
        told.add(fed);
        note(told, o, "plain", bytes);
        told.add(ask(o, "fault", 0));
        told.add(ask(o, "fault", 1));
        told.addAll(town(o));
        return told;
    }

    // ---- calls by name

    static long ask(Object o, String name, long... args) {
        try {
            Method m = method(o, name, args.length);
            Object[] given = new Object[args.length];
            for (int k = 0; k < args.length; k++) {
                if (m.getParameterTypes()[k] == long.class) {
                    given[k] = args[k];
                } else {
                    given[k] = (int) args[k];
                }
            }
            Object answer = m.invoke(o, given);
            return answer instanceof Boolean b ? (b ? 1 : 0) : ((Number) answer).longValue();
        } catch (ReflectiveOperationException e) {
            throw new IllegalStateException(name, e);
        }
    }

    private static Method method(Object o, String name, int many) {
        return METHODS.computeIfAbsent(o.getClass().getName() + "." + name + many, k -> {
            for (Method m : o.getClass().getDeclaredMethods()) {
                if (m.getName().equals(name) && m.getParameterCount() == many && !Modifier.isPrivate(m.getModifiers())) {
                    m.setAccessible(true);
                    return m;
                }
            }
            throw new IllegalStateException(name);
        });
    }

    // ---- copies, field by field

    static NineSights copy(NineSights x) {
        try {
            return (NineSights) copy(x, new IdentityHashMap<>());
        } catch (ReflectiveOperationException e) {
            throw new IllegalStateException(e);
        }
    }

    private static Object copy(Object o, Map<Object, Object> made) throws ReflectiveOperationException {
        if (o == null || o instanceof String) {
            return o;
        }
        if (made.containsKey(o)) {
            return made.get(o);
        }
        if (o.getClass().isArray()) {
            return copyArray(o, made);
        }
        Constructor<?> make = o.getClass().getDeclaredConstructor();
        make.setAccessible(true);
        Object copy = make.newInstance();
        made.put(o, copy);
        for (Field f : o.getClass().getDeclaredFields()) {
            if (!Modifier.isStatic(f.getModifiers())) {
                f.setAccessible(true);
                f.set(copy, f.getType().isPrimitive() ? f.get(o) : copy(f.get(o), made));
            }
        }
        return copy;
    }

    private static Object copyArray(Object o, Map<Object, Object> made) throws ReflectiveOperationException {
        int length = Array.getLength(o);
        Object copy = Array.newInstance(o.getClass().getComponentType(), length);
        made.put(o, copy);
        if (o.getClass().getComponentType().isPrimitive()) {
            System.arraycopy(o, 0, copy, 0, length);
            return copy;
        }
        for (int k = 0; k < length; k++) {
            Array.set(copy, k, copy(Array.get(o, k), made));
        }
        return copy;
    }
}
