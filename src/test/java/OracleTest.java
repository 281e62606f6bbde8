import java.nio.charset.StandardCharsets;
import java.util.ArrayList;
import java.util.Arrays;
import java.util.LinkedHashMap;
import java.util.List;
import java.util.Map;
import java.util.Random;
import java.util.TreeMap;

/**
 * Runs of random calls, each answer held against the Oracle's. Two arguments may be told: the first seed, how many
 * runs.
 */
public final class OracleTest {
    /** With trouble() behind each they are 512. */
    private static final int LONGEST_RUN = 256;
    /** What the parameters mean: see number(). */
    private static final Map<String, String> CALLS = new LinkedHashMap<>();

    static {
        String all = "fault where ranges:s range:siB letters:s has:sl mixed:ssf mixedRanges:ssf mixedRange:ssfiB "
                + "size:mw edge:mew edgeRange:meiB free:meB ends:m block:mb sheaf:mh useless:m terms:mq term:mqiw "
                + "go:mcl takes:mc dead:m first:mc firstLetter:mci parting:mcc partingLetter:mcci rounds:m word:nllll "
                + "more:l taken:m leads:m classOf:m place:m count:mn at:mnKi longest:m found:mmf foundLetter:mmfi "
                + "same:mm within:mm sure:m least:m other:m join:mmf behind:mm again:m backwards:m only:ms moved:mk "
                + "past:ml drop twin:m total:w letter:e trouble";
        for (String call : all.split(" ")) {
            int colon = call.indexOf(':');
            CALLS.put(colon < 0 ? call : call.substring(0, colon), colon < 0 ? "" : call.substring(colon + 1));
        }
    }

    private static final Map<String, Integer> SEEN = new TreeMap<>();
    private static final Map<Integer, Integer> FAULTS = new TreeMap<>();

    private final Random random;
    private final Both both = new Both();
    private final Oracle oracle = both.oracle;
    private final List<String> log = new ArrayList<>();

    private OracleTest(long seed) {
        random = new Random(seed);
    }

    public static void main(String[] args) {
        long first = args.length > 0 ? Long.parseLong(args[0]) : 1;
        long runs = args.length > 1 ? Long.parseLong(args[1]) : 2500;
        for (long seed = first; seed < first + runs; seed++) {
            if (!new OracleTest(seed).run()) {
                System.out.println("seed " + seed + " failed");
                System.exit(1);
            }
        }
        System.out.println("answers: " + SEEN);
        System.out.println("faults: " + FAULTS);
        for (String name : CALLS.keySet()) {
            if (SEEN.getOrDefault(name, 0) == 0 && runs > 100) {
                System.out.println(name + " never answered");
                System.exit(1);
            }
        }
        System.out.println(runs + " runs answered as the oracle does");
    }

    private boolean run() {
        int calls = 0;
        int style = random.nextInt(4);
        while (calls < LONGEST_RUN) {
            if (oracle.machines.isEmpty() && random.nextInt(8) > 0 || random.nextInt(style == 0 ? 12 : 150) == 0) {
                int used = bench(calls);
                if (used < 0) {
                    return false;
                }
                calls += used;
                continue;
            }
            List<String> names = new ArrayList<>(CALLS.keySet());
            String name = names.get(random.nextInt(names.size()));
            if (oracle.machines.size() > 8 && random.nextBoolean()) {
                name = "drop";
            }
            if (!call(name, arguments(name))) {
                return false;
            }
            calls++;
        }
        return true;
    }

    private int bench(int calls) {
        String text = new Texts(random).text();
        byte[] bytes = text.getBytes(StandardCharsets.ISO_8859_1);
        int length = Math.min(bytes.length, 900);
        byte[] padded = Arrays.copyOf(bytes, (length + 19) / 20 * 20);
        if (random.nextInt(30) == 0) {
            padded = Arrays.copyOf(padded, 920);
        }
        if (calls + padded.length / 20 + 5 > LONGEST_RUN) {
            return call("trouble") ? 1 : -1;
        }
        for (int i = 0; i < padded.length; i += 20) {
            Object[] five = new Object[5];
            for (int j = 0; j < 5; j++) {
                five[j] = java.nio.ByteBuffer.wrap(padded).getInt(i + 4 * j);
            }
            if (!call("feed", five)) {
                return -1;
            }
        }
        int n = random.nextInt(40) == 0 ? random.nextInt(950) - 20 : length;
        boolean fine = call("bench", n) && call("trouble")
                && call("fault") && call("where")
                && call("total", 4);
        FAULTS.merge(oracle.fault, 1, Integer::sum);
        return fine ? padded.length / 20 + 5 : -1;
    }

    private boolean call(String name, Object... arguments) {
        boolean same = both.call(name, arguments);
        log.add(name + Arrays.toString(arguments) + " = " + both.got);
        if (!both.got.equals("-1") && !both.got.startsWith("throws")) {
            SEEN.merge(name, 1, Integer::sum);
        }
        if (!same) {
            log.forEach(System.out::println);
            System.out.println("due: " + both.due + ", trouble " + both.dueTrouble + " (got " + both.gotTrouble + ")");
        }
        return same;
    }

    private Object[] arguments(String name) {
        String kinds = CALLS.get(name);
        Object[] arguments = new Object[kinds.length()];
        int m = 0;
        for (int i = 0; i < arguments.length; i++) {
            char kind = kinds.charAt(i);
            if (kind == 'B') {
                arguments[i] = random.nextBoolean();
            } else if (kind == 'K') {
                arguments[i] = place(m, (Integer) arguments[1]);
            } else {
                int number = random.nextInt(60) == 0 ? wild()
                        : kind == 'i' ? random.nextInt(1 + howMany(name, arguments)) : number(kind, m);
                arguments[i] = number;
                m = kind == 'm' ? number : m;
            }
        }
        return arguments;
    }

    /** Of the things that the next argument tells how many there are; the oracle's trouble stays. */
    private int howMany(String name, Object[] a) {
        int trouble = oracle.trouble;
        int n;
        switch (name) {
            case "range":
                n = oracle.ranges((Integer) a[0]);
                break;
            case "mixedRange":
                n = oracle.mixedRanges((Integer) a[0], (Integer) a[1], (Integer) a[2]);
                break;
            case "edgeRange":
                n = oracle.edge((Integer) a[0], (Integer) a[1], 2);
                break;
            case "term":
                n = oracle.terms((Integer) a[0], (Integer) a[1]);
                break;
            case "firstLetter":
                n = oracle.first((Integer) a[0], (Integer) a[1]);
                break;
            case "partingLetter":
                n = oracle.parting((Integer) a[0], (Integer) a[1], (Integer) a[2]);
                break;
            case "foundLetter":
                n = oracle.found((Integer) a[0], (Integer) a[1], (Integer) a[2]);
                break;
            default:
                n = 3;
                break;
        }
        oracle.trouble = trouble;
        return Math.max(n, 0);
    }

    private int wild() {
        int[] some = {-1, -2, 4, 7, 10, 11, 12, 16, 40, 64, 128, 65535, 65536, -65535, -65536,
            Integer.MAX_VALUE, Integer.MIN_VALUE};
        return some[random.nextInt(some.length)];
    }

    private long place(int m, int n) {
        Oracle.Machine x = m >= 0 && m < oracle.machines.size() ? oracle.machines.get(m) : null;
        if (x == null || n < 1 || n > 3) {
            return random.nextInt(5);
        }
        long all = x.count(0, n);
        switch (random.nextInt(8)) {
            case 0:
                return all;
            case 1:
                return all - 1;
            case 2:
                return -1;
            case 3:
                return random.nextLong();
            default:
                return all == 0 ? 0 : Math.floorMod(random.nextLong(), all);
        }
    }

    private int number(char kind, int m) {
        Oracle.Machine x = m >= 0 && m < oracle.machines.size() ? oracle.machines.get(m) : null;
        switch (kind) {
            case 'm':
                return random.nextInt(Math.max(1, oracle.machines.size()));
            case 's':
                return random.nextInt(Math.max(1, oracle.sets.size()));
            case 'f':
                return random.nextInt(16);
            case 'c':
                return random.nextInt(x == null ? 1 : x.classes());
            case 'q':
                return random.nextInt(x == null ? 1 : x.states);
            case 'b':
                return random.nextInt(x == null ? 1 : x.blocks.size() + 1);
            case 'h':
                return random.nextInt(x == null ? 1 : x.sheaves.size() + 1);
            case 'e':
                return random.nextInt(x == null ? 1 : 1 + Math.max(x.edges.size(), x.frees.size()));
            case 'n':
                return random.nextInt(5);
            case 'w':
                return random.nextInt(7);
            case 'k':
                return random.nextInt(3) == 0 ? random.nextInt(131073) - 65536 : random.nextInt(21) - 10;
            default:
                return letter(x);
        }
    }

    private int letter(Oracle.Machine x) {
        if (x != null && random.nextInt(3) > 0) {
            int b = random.nextInt(x.blocks.size());
            return x.blocks.get(b) + random.nextInt(x.blockLength(b));
        }
        int[] some = {random.nextInt(14), 65535 - random.nextInt(4), random.nextInt(65536), random.nextInt(14)};
        return some[random.nextInt(4)];
    }
}
