import java.lang.reflect.InvocationTargetException;
import java.lang.reflect.Method;
import java.lang.reflect.Modifier;
import java.util.Arrays;
import java.util.List;
import java.util.function.Supplier;

/** Every call with numbers near to and far from what is told, in many states: none throws, each answers what it may. */
public final class NoThrowTest extends Edges {
    private static final int[] MANY = {Integer.MIN_VALUE, Integer.MIN_VALUE + 1, -257, -21, -20, -10, -9, -2, -1, 0, 1,
        2, 3, 4, 5, 6, 7, 8, 9, 12, 13, 20, 39, 40, 41, 59, 60, 61, 255, 256, Integer.MAX_VALUE - 1, Integer.MAX_VALUE};
    private static final int[] SOME = {Integer.MIN_VALUE, -1, 0, 1, 3, 5, 40, 41, Integer.MAX_VALUE};
    // An object is used for 512 calls; a state takes some 100 of them.
    private static final int CALLS = 380;
    private static final List<Supplier<PinDuties>> STATES = List.of(PinDuties::new, Edges::rich, NoThrowTest::forty,
        NoThrowTest::allSwept, NoThrowTest::allHeld);
    private static PinDuties x;
    private static int used = 0;

    public static void main(String[] args) throws IllegalAccessException {
        for (Method m : PinDuties.class.getDeclaredMethods()) {
            if (Modifier.isPublic(m.getModifiers())) {
                for (Supplier<PinDuties> state : STATES) {
                    used = CALLS;
                    callWithAll(m, state, new Object[m.getParameterCount()], 0);
                }
            }
        }
        end();
    }

    private static PinDuties forty() {
        return walked("p0041c0119l1425m2637b3346w3522p9949m9949", 40);
    }

    private static PinDuties allSwept() {
        PinDuties x = street("p0041c0119w0549");
        x.sweep();
        return x;
    }

    private static PinDuties allHeld() {
        PinDuties x = street("p0041p0041m0049m0449m0849b0339c0010w0040");
        pick(x, 0, 1, 2, 3, 4, 5, 6, 7);
        return x;
    }

    private static void callWithAll(Method m, Supplier<PinDuties> state, Object[] args, int from)
            throws IllegalAccessException {
        if (from == args.length) {
            callOnce(m, state, args);
            return;
        }
        for (int v : args.length > 3 ? SOME : MANY) {
            args[from] = v;
            callWithAll(m, state, args, from + 1);
        }
    }

    private static void callOnce(Method m, Supplier<PinDuties> state, Object[] args) throws IllegalAccessException {
        if (used == CALLS) {
            x = state.get();
            used = 0;
        }
        used++;
        String call = m.getName() + Arrays.toString(args);
        try {
            Number got = (Number) m.invoke(x, args);
            // Only the digest and what is told may be any number.
            boolean any = List.of("digest", "asked", "upper").contains(m.getName());
            boolean refused = List.of(-1, -2, -3, -4, -9).contains(got.intValue());
            due(call + " answers what it may (1: so)", any || refused || got.longValue() >= 0 ? 1 : 0, 1);
        } catch (InvocationTargetException e) {
            due(call + " threw " + e.getCause() + " (0: no)", 1, 0);
        }
    }
}
