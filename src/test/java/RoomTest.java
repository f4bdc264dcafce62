import java.lang.reflect.Array;
import java.lang.reflect.Field;
import java.lang.reflect.Modifier;
import java.util.ArrayDeque;
import java.util.Collections;
import java.util.Deque;
import java.util.IdentityHashMap;
import java.util.Set;

/** How many objects and arrays, fields and elements an object of the class holds, at any time. */
public final class RoomTest {
    private static final Due DUE = new Due("RoomTest");
    private static final int OBJECTS_MOST = 150, PARTS_MOST = 3000;

    private final Set<Object> seen = Collections.newSetFromMap(new IdentityHashMap<>());
    private final Deque<Object> open = new ArrayDeque<>();
    private int parts = 0;

    public static void main(String[] args) throws IllegalAccessException {
        NoDayForIt x = new NoDayForIt();
        RoomTest first = roomOf(x);
        DUE.is("objects: " + first.seen.size(), first.seen.size() > OBJECTS_MOST ? 1 : 0, 0);
        DUE.is("fields and elements: " + first.parts, first.parts > PARTS_MOST ? 1 : 0, 0);
        use(x);
        RoomTest later = roomOf(x);
        DUE.is("objects behind a long run of calls", later.seen.size(), first.seen.size());
        DUE.is("fields and elements behind a long run of calls", later.parts, first.parts);
        first.seen.removeAll(later.seen);
        DUE.is("objects that were let go", first.seen.size(), 0);
        DUE.end();
    }

    private static RoomTest roomOf(NoDayForIt x) throws IllegalAccessException {
        RoomTest room = new RoomTest();
        room.reach(x);
        while (!room.open.isEmpty()) {
            room.look(room.open.pop());
        }
        return room;
    }

    private static void use(NoDayForIt x) {
        for (int p = 0; p < 9; p++) {
            x.person(p % 3, 2);
            x.group();
        }
        for (int i = 0; i < 8; i++) {
            Due.law(x, "year 60;bill;step free market after 0 voice sign;step free after 3 within "
                + (i + 4) + ";bill;step free after 1;step dark after 0;");
            for (int j = 0; j < 9; j++) {
                x.act(j % 6, j % 8, 0);
                x.keep(j % 2);
                x.soon(0, -1);
                x.back(j % 2);
            }
            x.against(1);
            x.word(i % 5, 3, 1, 3);
            x.mended(0);
            x.price(i % 7, i);
        }
    }

    private void reach(Object o) {
        if (o != null && seen.add(o)) {
            open.push(o);
        }
    }

    private void look(Object o) throws IllegalAccessException {
        if (o.getClass().isArray()) {
            parts += Array.getLength(o);
            for (int i = 0; o instanceof Object[] && i < Array.getLength(o); i++) {
                reach(Array.get(o, i));
            }
            return;
        }
        for (Field f : o.getClass().getDeclaredFields()) {
            if (Modifier.isStatic(f.getModifiers())) {
                continue;
            }
            parts++;
            f.setAccessible(true);
            if (!f.getType().isPrimitive()) {
                reach(f.get(o));
            }
        }
    }
}
