import java.lang.reflect.Constructor;
import java.lang.reflect.Field;
import java.lang.reflect.Method;
import java.lang.reflect.Modifier;
import java.util.Arrays;
import java.util.Set;
import java.util.TreeSet;

/** The public face: each constant, constructor and method of the document, and no other one. */
public final class FaceTest {
    private static final String METHODS = """
        int row(int, int)
        int lay(int, int, int)
        int at(int, int)
        int tear(int)
        int copy(int, int, int, int, int)
        int mean(int)
        int text(int, int)
        int put(int, int, int)
        int fault(int)
        int street(int)
        int pin(int, int)
        int mark(int, int)
        int worth(int, int)
        int step(int)
        int pick(int)
        int drop(int)
        int sweep()
        int undo(int)
        int keep(int)
        int on(int)
        int busy()
        int clashes()
        int least()
        int best(int)
        int walk(int)
        int within(int)
        int whose(int)
        int kinds(int, int)
        int test(int, int)
        int lucks(int, int)
        int duel(int)
        int odds(int, int)
        int mid(int)
        int lots(int, int)
        int asked()
        long upper()
        long lower()
        int count(int)
        int finding()
        int findings(int)
        long digest()
        """;

    public static void main(String[] args) throws IllegalAccessException {
        Check.due("the class is public and final", PinDuties.class.getModifiers(), Modifier.PUBLIC | Modifier.FINAL);
        constants();
        constructors();
        methods();
        Check.end();
    }

    private static void constants() throws IllegalAccessException {
        Set<String> got = new TreeSet<>();
        for (Field f : PinDuties.class.getDeclaredFields()) {
            if (!Modifier.isPrivate(f.getModifiers())) {
                Check.due(f + " is constant", f.getModifiers(), Modifier.PUBLIC | Modifier.STATIC | Modifier.FINAL);
                got.add(f.getType() + " " + f.getName() + " " + f.get(null));
            }
        }
        String[] want = {"int BAD -1", "int FULL -2", "int FINDING -3", "int STATE -4", "int SPENT -6", "int NONE -9"};
        same("constants", got, new TreeSet<>(Arrays.asList(want)));
    }

    private static void constructors() {
        Constructor<?>[] all = PinDuties.class.getDeclaredConstructors();
        Check.due("constructors", all.length, 1);
        Check.due("of no parameters", all[0].getParameterCount(), 0);
        Check.due("public", all[0].getModifiers(), Modifier.PUBLIC);
    }

    private static void methods() {
        Set<String> got = new TreeSet<>();
        for (Method m : PinDuties.class.getDeclaredMethods()) {
            if (!Modifier.isPrivate(m.getModifiers()) && !m.isSynthetic()) {
                Check.due(m + " is public", m.getModifiers(), Modifier.PUBLIC);
                StringBuilder types = new StringBuilder();
                for (Class<?> type : m.getParameterTypes()) {
                    types.append(types.length() == 0 ? "" : ", ").append(type);
                }
                got.add(m.getReturnType() + " " + m.getName() + "(" + types + ")");
            }
        }
        same("methods", got, new TreeSet<>(METHODS.lines().toList()));
    }

    private static void same(String what, Set<String> got, Set<String> want) {
        if (!got.equals(want)) {
            System.out.println(what + ": " + got + ", due are " + want);
        }
        Check.due(what + " are those of the document (1: yes)", got.equals(want) ? 1 : 0, 1);
    }
}
