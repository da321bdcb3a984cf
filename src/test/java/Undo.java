import java.lang.reflect.Array;
import java.lang.reflect.Field;
import java.lang.reflect.Modifier;
import java.util.IdentityHashMap;
import java.util.Map;

/** What an object and all that it holds were like; for a broken class whose calls change nothing. */
final class Undo {
    private final Map<Object, Object[]> was = new IdentityHashMap<>();

    Undo(Object root) {
        note(root);
    }

    private void note(Object o) {
        if (o == null || was.containsKey(o) || o.getClass().getName().contains(".")) {
            return;
        }
        Object[] values = new Object[sizeOf(o)];
        was.put(o, values);
        for (int i = 0; i < values.length; i++) {
            values[i] = get(o, i);
            note(values[i]);
        }
    }

    void bringBack() {
        was.forEach((o, values) -> {
            for (int i = 0; i < values.length; i++) {
                put(o, i, values[i]);
            }
        });
    }

    private static int sizeOf(Object o) {
        return o.getClass().isArray() ? Array.getLength(o) : o.getClass().getDeclaredFields().length;
    }

    private static Object get(Object o, int i) {
        if (o.getClass().isArray()) {
            return Array.get(o, i);
        }
        try {
            return field(o, i).get(o);
        } catch (IllegalAccessException e) {
            throw new IllegalStateException(e);
        }
    }

    private static void put(Object o, int i, Object value) {
        if (o.getClass().isArray()) {
            Array.set(o, i, value);
            return;
        }
        try {
            Field field = field(o, i);
            if (!Modifier.isFinal(field.getModifiers())) {
                field.set(o, value);
            }
        } catch (IllegalAccessException e) {
            throw new IllegalStateException(e);
        }
    }

    private static Field field(Object o, int i) {
        Field field = o.getClass().getDeclaredFields()[i];
        field.setAccessible(true);
        return field;
    }
}
