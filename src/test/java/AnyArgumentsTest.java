import java.lang.reflect.InvocationTargetException;
import java.lang.reflect.Method;
import java.lang.reflect.Modifier;

/** Rule 7 of LANGUAGE.md: no call throws or fails to end, for any arguments in any state. */
public final class AnyArgumentsTest {
    private static final int[] ENDS = {Integer.MIN_VALUE, Integer.MIN_VALUE + 1, -31, -2, -1, 0, 1,
        2, 5, 30, 40, 60, 100, 300, 360, 600, 5000, 20000, 1000001, Integer.MAX_VALUE - 1,
                Integer.MAX_VALUE};
    private static final int MOST_CALLS = 512;
    private static final int MOST_COMBINATIONS = 200000;

    public static void main(String[] args) throws IllegalAccessException {
        Edges.State[] states = {MapleLines::new, Edges::lively, AnyArgumentsTest::full};
        for (Method method : MapleLines.class.getDeclaredMethods()) {
            if (Modifier.isPublic(method.getModifiers())) {
                for (Edges.State state : states) {
                    callWithAll(method, state);
                }
            }
        }
        Check.end();
    }

    /** A bush all of whose rows are full: NODES, TREES, BATCHES, TANK, tape, RULES; and DAY 99. */
    private static MapleLines full() {
        MapleLines x = Check.boilingBush(10, "");
        for (int batch = 0; batch < 60; batch++) {
            Check.drawBatch(x, 35);
        }
        Check.rules(x, "grade 1 if day=1;".repeat(16));
        for (int node = 2; node < 40; node++) {
            x.node(node - 1, 100, node, node % 10);
        }
        for (int tree = 1; tree < 60; tree++) {
            x.tree(39, 400);
            x.tap(tree, 0);
        }
        for (int day = 10; day < 99; day++) {
            x.day(-10, 10);
        }
        x.let(5000);
        for (int fed = 0; fed < 30; fed++) {
            x.feed(-1, -1, -1, -1, -1);
        }
        return x;
    }

    private static void callWithAll(Method method,
            Edges.State state) throws IllegalAccessException {
        int parameters = method.getParameterCount();
        long combinations = Math.min(MOST_COMBINATIONS, (long) Math.pow(ENDS.length, parameters));
        MapleLines x = state.make();
        for (long i = 0; i < combinations; i++) {
            if (i % MOST_CALLS == 0) {
                x = state.make();
            }
            Object[] arguments = new Object[parameters];
            long rest = i;
            for (int at = 0; at < parameters; at++) {
                arguments[at] = ENDS[(int) (rest % ENDS.length)];
                rest /= ENDS.length;
            }
            call(method, x, arguments);
        }
    }

    private static void call(Method method, MapleLines x, Object[] arguments)
            throws IllegalAccessException {
        try {
            method.invoke(x, arguments);
        } catch (InvocationTargetException thrown) {
            Check.due(method.getName() + java.util.Arrays.toString(arguments) + " threw "
                    + thrown.getCause(), true, false);
        }
    }
}
