import java.lang.reflect.InvocationTargetException;
import java.lang.reflect.Method;
import java.nio.ByteBuffer;
import java.nio.charset.StandardCharsets;
import java.util.Arrays;

/** An object under test: calls are told as texts, such as "edge 0 2 1", and held against the answers that are due. */
final class Bench {
    private static int wrong;
    private static int calls;

    final RangedMachines machines = new RangedMachines();

    /** A new object that has read a text without fault. */
    static Bench of(String text) {
        Bench bench = new Bench();
        bench.tell(text);
        bench.plain("fault", 0);
        bench.plain("trouble", 0);
        return bench;
    }

    /** Feeds a text and reads it: what bench() answers. */
    int tell(String text) {
        byte[] bytes = text.getBytes(StandardCharsets.ISO_8859_1);
        feed(bytes);
        return machines.bench(bytes.length);
    }

    /** Feeds bytes, and blanks behind them: how many calls that took. */
    int feed(byte[] bytes) {
        byte[] full = Arrays.copyOf(bytes, (bytes.length + 19) / 20 * 20);
        Arrays.fill(full, bytes.length, full.length, (byte) ' ');
        ByteBuffer four = ByteBuffer.wrap(full);
        for (int i = 0; i < full.length; i += 20) {
            machines.feed(four.getInt(i), four.getInt(i + 4), four.getInt(i + 8), four.getInt(i + 12),
                    four.getInt(i + 16));
        }
        return full.length / 20;
    }

    /** A text with a fault at a place; what was told before stays. */
    void faulty(String text, int fault, int place) {
        int sets = machines.total(0);
        int all = machines.total(2);
        due("bench of " + text, tell(text), -1);
        plain("trouble", 4);
        due("fault of " + text, machines.fault(), fault);
        due("where of " + text, machines.where(), place);
        plain("total 0", sets);
        plain("total 2", all);
        plain("total 4", 0);
    }

    /** A text without fault. */
    void fine(String text, int machinesTold) {
        due("bench of " + text, tell(text), machinesTold);
        plain("trouble", 0);
        due("fault of " + text, machines.fault(), 0);
        plain("where", -1);
    }

    /** A call that is not refused. */
    void yes(String call, long answer) {
        due(call, answer(call), answer);
        due("trouble behind " + call, machines.trouble(), 0);
    }

    /** A call that is refused. */
    void no(String call, int trouble) {
        due(call, answer(call), -1);
        due("trouble behind " + call, machines.trouble(), trouble);
    }

    /** A call that leaves the trouble as it was. */
    void plain(String call, long answer) {
        int trouble = machines.trouble();
        due(call, answer(call), answer);
        due("trouble behind " + call, machines.trouble(), trouble);
    }

    /** A call that throws NoSuchElementException and leaves the trouble as it was. */
    void lacks(String call) {
        int trouble = machines.trouble();
        boolean thrown = false;
        try {
            answer(call);
        } catch (java.util.NoSuchElementException e) {
            thrown = true;
        }
        due(call + " throws", thrown ? 1 : 0, 1);
        due("trouble behind " + call, machines.trouble(), trouble);
    }

    /** A word's letters, asked one by one by a call that tells how many there are and one that tells each. */
    void word(String howMany, String each, int... letters) {
        yes(howMany, letters.length);
        for (int i = 0; i < letters.length; i++) {
            yes(each + " " + i, letters[i]);
        }
        no(each + " " + letters.length, 1);
        no(each + " -1", 1);
    }

    /** Edges of a machine: each as "from to low-high,low-high". */
    void edges(int m, String... edges) {
        yes("size " + m + " 1", edges.length);
        for (int i = 0; i < edges.length; i++) {
            String[] parts = edges[i].split(" ");
            yes("edge " + m + " " + i + " 0", Long.parseLong(parts[0]));
            yes("edge " + m + " " + i + " 1", Long.parseLong(parts[1]));
            String[] ranges = parts.length < 3 ? new String[0] : parts[2].split(",");
            yes("edge " + m + " " + i + " 2", ranges.length);
            int letters = 0;
            for (int j = 0; j < ranges.length; j++) {
                String[] bounds = ranges[j].split("-");
                int low = Integer.parseInt(bounds[0]);
                int high = Integer.parseInt(bounds[bounds.length - 1]);
                yes("edgeRange " + m + " " + i + " " + j + " false", low);
                yes("edgeRange " + m + " " + i + " " + j + " true", high);
                letters += high - low + 1;
            }
            yes("edge " + m + " " + i + " 3", letters);
        }
    }

    /** Free steps of a machine: each as "from to". */
    void frees(int m, String... frees) {
        yes("size " + m + " 2", frees.length);
        for (int i = 0; i < frees.length; i++) {
            String[] parts = frees[i].split(" ");
            yes("free " + m + " " + i + " false", Long.parseLong(parts[0]));
            yes("free " + m + " " + i + " true", Long.parseLong(parts[1]));
        }
        no("free " + m + " " + frees.length + " true", 1);
    }

    private long answer(String call) {
        String[] words = call.split(" ");
        for (Method method : RangedMachines.class.getDeclaredMethods()) {
            if (method.getName().equals(words[0]) && method.getParameterCount() == words.length - 1) {
                Object[] arguments = new Object[words.length - 1];
                for (int i = 0; i < arguments.length; i++) {
                    Class<?> type = method.getParameterTypes()[i];
                    String word = words[i + 1];
                    if (type == boolean.class) {
                        arguments[i] = Boolean.valueOf(word);
                    } else if (type == long.class) {
                        arguments[i] = Long.valueOf(word);
                    } else {
                        arguments[i] = Integer.valueOf(word);
                    }
                }
                try {
                    return ((Number) method.invoke(machines, arguments)).longValue();
                } catch (InvocationTargetException e) {
                    if (e.getCause() instanceof java.util.NoSuchElementException lacking) {
                        throw lacking;
                    }
                    throw new IllegalStateException(call + " threw", e.getCause());
                } catch (IllegalAccessException e) {
                    throw new IllegalStateException(e);
                }
            }
        }
        throw new IllegalStateException("no such call: " + call);
    }

    static void due(String what, long got, long due) {
        calls++;
        if (got != due) {
            wrong++;
            System.out.println(what + " answered " + got + ", due is " + due);
        }
    }

    static void end() {
        System.out.println(wrong == 0 ? calls + " answers are as due" : wrong + " answers are not as due");
        if (wrong != 0) {
            System.exit(1);
        }
    }
}
