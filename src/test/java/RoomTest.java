import java.lang.reflect.Array;
import java.lang.reflect.Field;
import java.lang.reflect.Modifier;
import java.util.ArrayDeque;
import java.util.Collections;
import java.util.IdentityHashMap;
import java.util.Set;

/**
 * How much of the room of ../shared/LANGUAGE.md a PinDuties takes: 600,000 objects and arrays, 7,300,000 fields and
 * elements. That calls make no objects is LanguageTest's.
 */
public final class RoomTest {
    private static final int OBJECTS = 50, ELEMENTS = 2500;

    private int objects = 0;
    private int elements = 0;

    public static void main(String[] args) throws IllegalAccessException {
        RoomTest first = of(new PinDuties());
        Check.due("objects and arrays of a new one: " + first.objects, first.objects <= OBJECTS ? 1 : 0, 1);
        Check.due("fields and elements of a new one: " + first.elements, first.elements <= ELEMENTS ? 1 : 0, 1);
        RoomTest later = of(used());
        Check.due("objects and arrays of one that was used", later.objects, first.objects);
        Check.due("fields and elements of one that was used", later.elements, first.elements);
        Check.end();
    }

    // All rows, texts and kept streets, as many pins and deeds as there can be, and every dear call.
    private static PinDuties used() {
        PinDuties x = Edges.walked("p0041c0119l1425m2637b3346w3522p9949m9949", 20);
        x.lots(20, 7);
        for (int r = 0; r < 6; r++) {
            x.row(r, 40);
        }
        for (int t = 0; t < 4; t++) {
            x.text(t, 60);
        }
        for (int k = 0; k < 3; k++) {
            x.keep(k);
        }
        Check.due("best(0), not refused (1: so)", x.best(0) >= 0 ? 1 : 0, 1);
        Check.due("within(20), not refused (1: so)", x.within(20) >= 0 ? 1 : 0, 1);
        Check.due("duel(4), not refused (1: so)", x.duel(4) >= 0 ? 1 : 0, 1);
        Check.due("odds(9, 5)", x.odds(9, 5), 1);
        Check.due("mid(5)", x.mid(5), 1);
        return x;
    }

    private static RoomTest of(PinDuties x) throws IllegalAccessException {
        RoomTest room = new RoomTest();
        Set<Object> seen = Collections.newSetFromMap(new IdentityHashMap<>());
        ArrayDeque<Object> queue = new ArrayDeque<>();
        queue.add(x);
        while (!queue.isEmpty()) {
            Object at = queue.poll();
            if (seen.add(at)) {
                room.objects++;
                if (at.getClass().isArray()) {
                    room.countPlaces(at, queue);
                } else {
                    room.countFields(at, queue);
                }
            }
        }
        return room;
    }

    private void countPlaces(Object array, ArrayDeque<Object> queue) {
        elements += Array.getLength(array);
        if (array instanceof Object[] objectsInIt) {
            for (Object o : objectsInIt) {
                queue.add(o);
            }
        }
    }

    private void countFields(Object o, ArrayDeque<Object> queue) throws IllegalAccessException {
        for (Field field : o.getClass().getDeclaredFields()) {
            if (!Modifier.isStatic(field.getModifiers())) {
                elements++;
                if (!field.getType().isPrimitive()) {
                    field.setAccessible(true);
                    queue.add(field.get(o));
                }
            }
        }
    }
}
