import java.lang.reflect.Array;
import java.lang.reflect.Field;
import java.lang.reflect.Modifier;
import java.util.ArrayDeque;
import java.util.Deque;
import java.util.IdentityHashMap;
import java.util.Map;

/**
 * How much room an object takes (LANGUAGE.md, rule 12). That no call makes another object, LanguageTest sees to; here it
 * is counted what a new one holds, and that it holds as much when all its places are taken.
 */
public final class RoomTest {
    private static final int MOST_OBJECTS = 150, MOST_FIELDS = 2500;

    private final Map<Object, Boolean> objects = new IdentityHashMap<>();
    private int fields;

    private RoomTest(Object first) throws IllegalAccessException {
        Deque<Object> open = new ArrayDeque<>();
        open.add(first);
        while (!open.isEmpty()) {
            Object one = open.remove();
            if (objects.put(one, true) == null) {
                look(one, open);
            }
        }
    }

    public static void main(String[] args) throws IllegalAccessException {
        Checks c = new Checks("RoomTest");
        PealOfExcuses x = new PealOfExcuses();
        RoomTest before = new RoomTest(x);
        c.holds("few objects, here " + before.objects.size(), before.objects.size() <= MOST_OBJECTS);
        c.holds("few fields and elements, here " + before.fields, before.fields <= MOST_FIELDS);
        take(x);
        RoomTest behind = new RoomTest(x);
        c.due("objects when all is taken", behind.objects.size(), before.objects.size());
        c.due("fields and elements when all is taken", behind.fields, before.fields);
        c.end();
    }

    private void look(Object one, Deque<Object> open) throws IllegalAccessException {
        if (one.getClass().isArray()) {
            int length = Array.getLength(one);
            fields += length;
            for (int k = 0; k < length && !one.getClass().getComponentType().isPrimitive(); k++) {
                add(Array.get(one, k), open);
            }
            return;
        }
        for (Field f : one.getClass().getDeclaredFields()) {
            if (!Modifier.isStatic(f.getModifiers())) {
                fields++;
                f.setAccessible(true);
                if (!f.getType().isPrimitive()) {
                    add(f.get(one), open);
                }
            }
        }
    }

    private static void add(Object one, Deque<Object> open) {
        if (one != null) {
            open.add(one);
        }
    }

    private static void take(PealOfExcuses x) {
        for (int k = 0; k < 7; k++) {
            x.person(k % 7, k, 10 * k, k);
            Checks.town(x, "lag 6 p=" + k + ";fast 1");
            x.tape(k, k % 5, 60);
        }
        for (int k = 0; k < 11; k++) {
            x.see(0, 0, 0);
            x.week(0, 0);
            x.book(0, 0);
        }
        for (int k = 0; k < 101; k++) {
            x.feed('f');
        }
        x.image();
        x.pass(60);
        x.act(3, 2, 1);
        x.prompt();
        x.undo();
    }
}
