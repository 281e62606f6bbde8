import java.lang.reflect.InvocationTargetException;
import java.lang.reflect.Method;
import java.lang.reflect.Modifier;
import java.nio.ByteBuffer;
import java.nio.charset.StandardCharsets;
import java.util.ArrayList;
import java.util.Arrays;
import java.util.HashMap;
import java.util.List;
import java.util.Map;
import java.util.Set;

/**
 * An object under test, whose calls are told as texts, such as "edge 0 2 1". The document says nothing about an object
 * after its 512th call: ahead of the 513th a new one with the same past takes its place.
 */
final class Subject {
    private static final int CALLS = 512;
    /** Calls that may change more than what trouble() and where() tell. */
    private static final Set<String> CHANGING = Set.of("feed", "bench", "word", "more", "sure", "least", "other", "join",
            "behind", "again", "backwards", "only", "moved", "past", "drop");
    /** Calls that can't be refused by a number: they leave TROUBLE as it was. */
    private static final Set<String> SILENT = Set.of("feed", "fault", "where", "twin", "total", "trouble");
    private static final Map<String, Method> METHODS = new HashMap<>();

    static {
        for (Method method : RangedMachines.class.getDeclaredMethods()) {
            if (Modifier.isPublic(method.getModifiers())) {
                METHODS.put(method.getName(), method);
            }
        }
    }

    private RangedMachines object = new RangedMachines();
    private int used;
    private final List<String> past = new ArrayList<>();
    /** The latest call that changed at most TROUBLE, if it is behind the past; the latest that did not even that. */
    private String latest = "";
    private String aside = "";

    /** The answer, or the name of what was thrown behind "throws ". */
    String ask(String call) {
        if (used == CALLS) {
            renew();
        }
        used++;
        String answer = invoke(call);
        String name = call.split(" ")[0];
        if (CHANGING.contains(name)) {
            if (name.equals("word") && !answer.equals("-1")) {
                past.removeIf(old -> old.startsWith("word") || old.startsWith("more"));
            }
            past.add(call);
            latest = SILENT.contains(name) ? latest : "";
        } else if (SILENT.contains(name)) {
            aside = call;
        } else {
            latest = call;
        }
        return answer;
    }

    /** Another object with the same past. */
    Subject copy() {
        Subject copy = new Subject();
        copy.past.addAll(past);
        copy.latest = latest;
        copy.aside = aside;
        copy.renew();
        return copy;
    }

    /** Two with the same story have the same past. */
    String story() {
        return String.join("\n", past) + "\n" + latest + "\n" + aside;
    }

    private void renew() {
        object = new RangedMachines();
        for (String call : past) {
            invoke(call);
        }
        used = past.size();
        for (String call : new String[] {latest, aside}) {
            if (!call.isEmpty()) {
                invoke(call);
                used++;
            }
        }
        if (used > CALLS / 2) {
            throw new IllegalStateException("a past of " + used + " calls: begin a new object");
        }
    }

    private String invoke(String call) {
        String[] words = call.split(" ");
        Method method = METHODS.get(words[0]);
        if (method == null || method.getParameterCount() != words.length - 1) {
            throw new IllegalStateException("no such call: " + call);
        }
        Object[] arguments = new Object[words.length - 1];
        for (int i = 0; i < arguments.length; i++) {
            Class<?> type = method.getParameterTypes()[i];
            String word = words[i + 1];
            arguments[i] = type == boolean.class ? Boolean.valueOf(word)
                    : type == long.class ? (Object) Long.valueOf(word) : (Object) Integer.valueOf(word);
        }
        try {
            return String.valueOf(method.invoke(object, arguments));
        } catch (InvocationTargetException e) {
            return "throws " + e.getCause().getClass().getSimpleName();
        } catch (IllegalAccessException e) {
            throw new IllegalStateException(e);
        }
    }

    /** The calls that bring bytes onto the tape, with blanks behind them to a whole number of twenties. */
    static List<String> feeds(byte[] bytes) {
        byte[] full = Arrays.copyOf(bytes, (bytes.length + 19) / 20 * 20);
        Arrays.fill(full, bytes.length, full.length, (byte) ' ');
        ByteBuffer four = ByteBuffer.wrap(full);
        List<String> calls = new ArrayList<>();
        while (four.hasRemaining()) {
            calls.add("feed " + four.getInt() + " " + four.getInt() + " " + four.getInt() + " " + four.getInt() + " "
                    + four.getInt());
        }
        return calls;
    }

    static byte[] bytesOf(String text) {
        return text.getBytes(StandardCharsets.ISO_8859_1);
    }
}
