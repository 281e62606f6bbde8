import java.lang.reflect.InvocationTargetException;
import java.lang.reflect.Method;
import java.util.Arrays;
import java.util.HashMap;
import java.util.Map;
import java.util.stream.Collectors;

/** An object and an oracle that hear the same calls; their answers and troubles are held against one another. */
final class Both {
    private static final Map<String, Method> ORACLES = new HashMap<>();

    static {
        for (Method method : Oracle.class.getDeclaredMethods()) {
            method.setAccessible(true);
            ORACLES.put(method.getName(), method);
        }
    }

    final Subject machines = new Subject();
    final Oracle oracle = new Oracle();
    /** What the latest call answered, and what was due; the troubles behind it. */
    String got;
    String due;
    String gotTrouble;
    String dueTrouble;

    /** Whether both answer the same; the object hears two calls. */
    boolean call(String name, Object... arguments) {
        due = answer(ORACLES.get(name), oracle, arguments);
        got = machines.ask(name + Arrays.stream(arguments).map(a -> " " + a).collect(Collectors.joining()));
        dueTrouble = String.valueOf(oracle.trouble());
        gotTrouble = machines.ask("trouble");
        return due.equals(got) && dueTrouble.equals(gotTrouble);
    }

    /** A call of which Bench keeps count. */
    void same(String name, Object... arguments) {
        boolean same = call(name, arguments);
        Bench.due(name + Arrays.toString(arguments) + " = " + got + ", trouble " + gotTrouble + ", due " + due
                + ", trouble " + dueTrouble + ": alike", same ? 1 : 0, 1);
    }

    /** Feeds a text and blanks, and reads it. */
    void tell(String text) {
        byte[] bytes = Subject.bytesOf(text);
        for (String feed : Subject.feeds(bytes)) {
            same("feed", Arrays.stream(feed.split(" ")).skip(1).map(Integer::valueOf).toArray());
        }
        same("bench", bytes.length);
        same("fault");
        same("where");
    }

    private static String answer(Method method, Object on, Object[] arguments) {
        try {
            return String.valueOf(method.invoke(on, arguments));
        } catch (InvocationTargetException e) {
            return "throws " + e.getCause().getClass().getSimpleName();
        } catch (IllegalAccessException e) {
            throw new IllegalStateException(e);
        }
    }
}
