import java.lang.reflect.InvocationTargetException;
import java.lang.reflect.Method;
import java.nio.ByteBuffer;
import java.nio.charset.StandardCharsets;
import java.util.Arrays;
import java.util.HashMap;
import java.util.Map;

/** An object and an oracle that hear the same calls; their answers and troubles are held against one another. */
final class Both {
    private static final Map<String, Method> CALLS = new HashMap<>();
    private static final Map<String, Method> ORACLES = new HashMap<>();

    static {
        for (Method method : RangedMachines.class.getMethods()) {
            CALLS.put(method.getName(), method);
        }
        for (Method method : Oracle.class.getDeclaredMethods()) {
            method.setAccessible(true);
            ORACLES.put(method.getName(), method);
        }
    }

    final RangedMachines machines = new RangedMachines();
    final Oracle oracle = new Oracle();
    /** What the latest call answered, and what was due. */
    String got;
    String due;

    /** Whether both answer the same. */
    boolean call(String name, Object... arguments) {
        due = answer(ORACLES.get(name), oracle, arguments);
        got = answer(CALLS.get(name), machines, arguments);
        return due.equals(got) && machines.trouble() == oracle.trouble();
    }

    /** A call of which Bench keeps count. */
    void same(String name, Object... arguments) {
        boolean same = call(name, arguments);
        Bench.due(name + Arrays.toString(arguments) + " = " + got + ", trouble " + machines.trouble() + ", due " + due
                + ", trouble " + oracle.trouble() + ": alike", same ? 1 : 0, 1);
    }

    /** Feeds a text and blanks, and reads it. */
    void tell(String text) {
        byte[] bytes = text.getBytes(StandardCharsets.ISO_8859_1);
        byte[] full = Arrays.copyOf(bytes, (bytes.length + 19) / 20 * 20);
        Arrays.fill(full, bytes.length, full.length, (byte) ' ');
        for (int i = 0; i < full.length; i += 20) {
            Object[] five = new Object[5];
            for (int j = 0; j < 5; j++) {
                five[j] = ByteBuffer.wrap(full).getInt(i + 4 * j);
            }
            same("feed", five);
        }
        same("bench", bytes.length);
        same("fault");
        same("where");
    }

    private static String answer(Method method, Object on, Object[] arguments) {
        try {
            return String.valueOf(method.invoke(on, arguments));
        } catch (InvocationTargetException e) {
            return "throws " + e.getCause().getClass().getName();
        } catch (IllegalAccessException e) {
            throw new IllegalStateException(e);
        }
    }
}
