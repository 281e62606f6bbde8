import java.util.ArrayDeque;
import java.util.ArrayList;
import java.util.LinkedHashMap;
import java.util.LinkedHashSet;
import java.util.List;
import java.util.Map;
import java.util.Random;
import java.util.TreeMap;
import java.util.regex.Matcher;
import java.util.regex.Pattern;

/**
 * Terms II, FAULT 1: the first byte that begins no TOKEN, or TOKEN with which no BENCH goes on. The document's grammar is
 * written down as rules, and a chart over them, which knows nothing of how the class or the Oracle reads, says where no
 * BENCH goes on. Two arguments may be told: the first seed, how many texts.
 */
public final class FormTest {
    private static final String KEYWORDS = "set machine edge free end any";
    /** In a rule's right side name and whole are TOKENS of their sort, what has a rule of its own isn't one. */
    private static final Map<String, String[]> RULES = new LinkedHashMap<>();

    static {
        RULES.put("BENCH", new String[] {"LINE", "BENCH ; LINE"});
        RULES.put("LINE", new String[] {"set name BODY", "machine whole", "edge whole whole BODY", "free whole whole",
            "end whole"});
        RULES.put("BODY", new String[] {"MEET", "BODY | MEET"});
        RULES.put("MEET", new String[] {"PART", "MEET & PART", "MEET - PART"});
        RULES.put("PART", new String[] {"! PART", "( BODY )", "[ RANGES ]", "name", "any"});
        RULES.put("RANGES", new String[] {"RANGE", "RANGES , RANGE"});
        RULES.put("RANGE", new String[] {"whole", "whole .. whole"});
    }

    /** A TOKEN, or what begins none, or a run of letters or digits that is too long for one. */
    private static final Pattern PIECE = Pattern.compile("[a-z]+|[0-9]+|\\.\\.|[^ ]", Pattern.DOTALL);
    private static final Pattern TOKEN = Pattern.compile("[a-z]{1,7}|[0-9]{1,5}|\\.\\.|[;|&!()\\[\\],-]");

    /** A rule of which what stands ahead of the dot has been met since a place in the chart. */
    private record Item(String head, String body, int dot, int since) {
        String next() {
            String[] parts = body.split(" ");
            return dot < parts.length ? parts[dot] : "";
        }

        Item on() {
            return new Item(head, body, dot + 1, since);
        }
    }

    public static void main(String[] args) {
        long first = args.length > 0 ? Long.parseLong(args[0]) : 1;
        long texts = args.length > 1 ? Long.parseLong(args[1]) : 4000;
        written();
        Map<Integer, Integer> faults = new TreeMap<>();
        for (long seed = first; seed < first + texts; seed++) {
            Random random = new Random(seed);
            String text = random.nextInt(3) == 0 ? new Texts(random).text() : tokens(random);
            if (text.length() <= 900) {
                faults.merge(holds(text), 1, Integer::sum);
            }
        }
        System.out.println("faults: " + faults);
        Bench.end();
    }

    /** The chart itself, by texts whose places are plain. */
    private static void written() {
        Bench.due("no text", form(""), 0);
        Bench.due("blanks", form("   "), 3);
        Bench.due("a bench", form("machine 1 "), -1);
        Bench.due("a line behind", form("machine 1;"), 10);
        Bench.due("a keyword as a name", form("set end any"), 4);
        Bench.due("a long word", form("set abcdefgh any"), 4);
        Bench.due("a long whole", form("machine 000001"), 8);
        Bench.due("three dots", form("set a [1...2]"), 10);
        Bench.due("a bracket too many", form("set a (any))"), 11);
        Bench.due("a bracket too few", form("set a (any"), 10);
        Bench.due("two bodies", form("set a any b"), 10);
    }

    /** The FAULT of a text, after it has been held against its FORM. */
    private static int holds(String text) {
        Bench bench = new Bench();
        bench.tell(text);
        int fault = (int) bench.ask("fault");
        int place = (int) bench.ask("where");
        int form = form(text);
        boolean formed = form < 0;
        boolean atEnd = fault == 8 || fault == 7 && place == text.length();
        boolean right = fault == 1 ? place == form
                : fault == 0 || atEnd ? formed
                : formed || place < form;
        Bench.due("fault " + fault + " at " + place + ", no BENCH goes on at " + form + " of " + text + ": right",
                right ? 1 : 0, 1);
        return fault;
    }

    /** Where no BENCH goes on; -1 if the text is one. */
    private static int form(String text) {
        List<LinkedHashSet<Item>> chart = new ArrayList<>();
        LinkedHashSet<Item> begin = new LinkedHashSet<>();
        expect("BENCH", 0, begin, new ArrayDeque<>());
        chart.add(begin);
        Matcher piece = PIECE.matcher(text);
        while (piece.find()) {
            close(chart);
            LinkedHashSet<Item> next = new LinkedHashSet<>();
            for (Item item : chart.get(chart.size() - 1)) {
                if (item.next().equals(sort(piece.group()))) {
                    next.add(item.on());
                }
            }
            if (next.isEmpty()) {
                return piece.start();
            }
            chart.add(next);
        }
        close(chart);
        for (Item item : chart.get(chart.size() - 1)) {
            if (item.head.equals("BENCH") && item.since == 0 && item.next().isEmpty()) {
                return -1;
            }
        }
        return text.length();
    }

    private static String sort(String piece) {
        if (!TOKEN.matcher(piece).matches()) {
            return "none";
        }
        return Character.isDigit(piece.charAt(0)) ? "whole"
                : piece.charAt(0) < 'a' || piece.charAt(0) > 'z' || (" " + KEYWORDS + " ").contains(" " + piece + " ")
                ? piece : "name";
    }

    /** All that can stand at the chart's last place. */
    private static void close(List<LinkedHashSet<Item>> chart) {
        int here = chart.size() - 1;
        ArrayDeque<Item> open = new ArrayDeque<>(chart.get(here));
        while (!open.isEmpty()) {
            Item item = open.poll();
            if (RULES.containsKey(item.next())) {
                expect(item.next(), here, chart.get(here), open);
            } else if (item.next().isEmpty()) {
                for (Item waiting : new ArrayList<>(chart.get(item.since))) {
                    if (waiting.next().equals(item.head) && chart.get(here).add(waiting.on())) {
                        open.add(waiting.on());
                    }
                }
            }
        }
    }

    private static void expect(String head, int here, LinkedHashSet<Item> all, ArrayDeque<Item> open) {
        for (String body : RULES.get(head)) {
            Item item = new Item(head, body, 0, here);
            if (all.add(item)) {
                open.add(item);
            }
        }
    }

    /** TOKENS by the rules, some of them left out, put in, taken for another; blanks between, or none. */
    private static String tokens(Random random) {
        List<String> tokens = new ArrayList<>(List.of("machine", "2"));
        for (int lines = random.nextInt(5); lines > 0; lines--) {
            tokens.add(";");
            grow("LINE", random, 0, tokens);
        }
        String[] others = (KEYWORDS + " a b 0 1 70000 .. ; | & - ! ( ) [ ] , # abcdefgh 123456 . A").split(" ");
        for (int slips = random.nextInt(3); slips > 0; slips--) {
            int at = random.nextInt(tokens.size());
            String other = others[random.nextInt(others.length)];
            switch (random.nextInt(3)) {
                case 0 -> tokens.set(at, other);
                case 1 -> tokens.set(at, "");
                default -> tokens.add(at, other);
            }
        }
        StringBuilder text = new StringBuilder();
        for (String token : tokens) {
            text.append(token).append(" ".repeat(Math.max(0, random.nextInt(4) - 1)));
        }
        return text.toString();
    }

    /** Deep down the first of a rule's bodies, or its last: those come to an end. */
    private static void grow(String head, Random random, int depth, List<String> into) {
        String[] bodies = RULES.get(head);
        int end = head.equals("PART") ? bodies.length - 1 : 0;
        String body = depth > 24 || random.nextInt(4) == 0 ? bodies[end] : bodies[random.nextInt(bodies.length)];
        for (String part : body.split(" ")) {
            if (RULES.containsKey(part)) {
                grow(part, random, depth + 1, into);
            } else {
                into.add(part.equals("name") ? "" + (char) ('a' + random.nextInt(2))
                        : part.equals("whole") ? "" + random.nextInt(2) : part);
            }
        }
    }
}
