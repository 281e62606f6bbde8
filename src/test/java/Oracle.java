import java.nio.charset.StandardCharsets;
import java.util.ArrayDeque;
import java.util.ArrayList;
import java.util.BitSet;
import java.util.Collections;
import java.util.HashMap;
import java.util.LinkedHashMap;
import java.util.List;
import java.util.Map;
import java.util.NoSuchElementException;
import java.util.TreeMap;
import java.util.TreeSet;
import java.util.regex.Matcher;
import java.util.regex.Pattern;

/**
 * The document once more, in the plainest way that the Java library lets it be said: sets are bit sets of all letters,
 * sheaves are sets of numbers, words are lists. It shares no thought of form with the class that it judges.
 */
final class Oracle {
    static final int ALL = 65536;

    record Edge(int from, int to, BitSet set) { }

    record Free(int from, int to) { }

    static final class Fault extends RuntimeException {
        private static final long serialVersionUID = 1L;
        final int number;
        final int place;

        Fault(int number, int place) {
            this.number = number;
            this.place = place;
        }
    }

    static final class TooLarge extends RuntimeException {
        private static final long serialVersionUID = 1L;
    }

    static final class Machine {
        int states;
        TreeSet<Integer> ends = new TreeSet<>();
        List<Edge> edges = new ArrayList<>();
        List<Free> frees = new ArrayList<>();

        List<Integer> blocks;
        List<TreeSet<Integer>> sheaves;
        List<List<Integer>> sheafWords;
        Map<TreeSet<Integer>, Integer> sheafNumbers;
        Map<Long, Integer> steps = new HashMap<>();
        int[] classOfSheaf;
        List<Integer> heads;
        Map<Long, List<Integer>> partings = new HashMap<>();

        TreeSet<Integer> close(TreeSet<Integer> some) {
            TreeSet<Integer> all = new TreeSet<>(some);
            ArrayDeque<Integer> open = new ArrayDeque<>(some);
            while (!open.isEmpty()) {
                int q = open.poll();
                for (Free f : frees) {
                    if (f.from == q && all.add(f.to)) {
                        open.add(f.to);
                    }
                }
            }
            return all;
        }

        TreeSet<Integer> after(TreeSet<Integer> some, int letter) {
            TreeSet<Integer> next = new TreeSet<>();
            for (Edge e : edges) {
                if (some.contains(e.from) && e.set.get(letter)) {
                    next.add(e.to);
                }
            }
            return close(next);
        }

        TreeSet<Integer> sheafOf(List<Integer> word) {
            TreeSet<Integer> now = close(new TreeSet<>(List.of(0)));
            for (int letter : word) {
                now = after(now, letter);
            }
            return now;
        }

        boolean isEnd(TreeSet<Integer> sheaf) {
            return !Collections.disjoint(sheaf, ends);
        }

        /** Blocks and sheaves; throws if they are too many. */
        void finish() {
            if (states > 40 || edges.size() > 160 || frees.size() > 64) {
                throw new TooLarge();
            }
            TreeSet<Integer> cuts = new TreeSet<>(List.of(0));
            for (Edge e : edges) {
                for (int at = e.set.nextSetBit(0); at >= 0; at = e.set.nextSetBit(at)) {
                    cuts.add(at);
                    at = e.set.nextClearBit(at);
                    if (at < ALL) {
                        cuts.add(at);
                    }
                }
            }
            blocks = new ArrayList<>(cuts);
            if (blocks.size() > 128) {
                throw new TooLarge();
            }
            sheaves = new ArrayList<>();
            sheafWords = new ArrayList<>();
            sheafNumbers = new HashMap<>();
            note(close(new TreeSet<>(List.of(0))), List.of());
            for (int i = 0; i < sheaves.size(); i++) {
                for (int letter : blocks) {
                    List<Integer> word = new ArrayList<>(sheafWords.get(i));
                    word.add(letter);
                    note(after(sheaves.get(i), letter), word);
                }
            }
        }

        private void note(TreeSet<Integer> sheaf, List<Integer> word) {
            if (!sheafNumbers.containsKey(sheaf)) {
                if (sheaves.size() == 40) {
                    throw new TooLarge();
                }
                sheafNumbers.put(sheaf, sheaves.size());
                sheaves.add(sheaf);
                sheafWords.add(word);
            }
        }

        int blockOf(int letter) {
            int b = Collections.binarySearch(blocks, letter);
            return b >= 0 ? b : -b - 2;
        }

        int blockLength(int b) {
            return (b + 1 < blocks.size() ? blocks.get(b + 1) : ALL) - blocks.get(b);
        }

        int step(int s, int letter) {
            int start = blocks.get(blockOf(letter));
            return steps.computeIfAbsent((long) s * ALL + start, k -> sheafNumbers.get(after(sheaves.get(s), start)));
        }

        /** The first word that parts two sheaves, by going through all pairs; null without one. */
        List<Integer> parting(int s, int t) {
            long key = s * 64L + t;
            if (partings.containsKey(key)) {
                return partings.get(key);
            }
            LinkedHashMap<Integer, List<Integer>> seen = new LinkedHashMap<>();
            ArrayDeque<int[]> open = new ArrayDeque<>();
            seen.put(s * 64 + t, List.of());
            open.add(new int[] {s, t});
            List<Integer> answer = null;
            while (!open.isEmpty() && answer == null) {
                int[] pair = open.poll();
                List<Integer> word = seen.get(pair[0] * 64 + pair[1]);
                if (isEnd(sheaves.get(pair[0])) != isEnd(sheaves.get(pair[1]))) {
                    answer = word;
                    break;
                }
                for (int letter : blocks) {
                    int a = step(pair[0], letter);
                    int b = step(pair[1], letter);
                    if (!seen.containsKey(a * 64 + b)) {
                        List<Integer> longer = new ArrayList<>(word);
                        longer.add(letter);
                        seen.put(a * 64 + b, longer);
                        open.add(new int[] {a, b});
                    }
                }
            }
            partings.put(key, answer);
            return answer;
        }

        void findClasses() {
            if (classOfSheaf != null) {
                return;
            }
            classOfSheaf = new int[sheaves.size()];
            heads = new ArrayList<>();
            for (int s = 0; s < sheaves.size(); s++) {
                int c = 0;
                while (c < heads.size() && parting(heads.get(c), s) != null) {
                    c++;
                }
                if (c == heads.size()) {
                    heads.add(s);
                }
                classOfSheaf[s] = c;
            }
        }

        int classes() {
            findClasses();
            return heads.size();
        }

        int classStep(int c, int letter) {
            findClasses();
            return classOfSheaf[step(heads.get(c), letter)];
        }

        boolean classTakes(int c) {
            findClasses();
            return isEnd(sheaves.get(heads.get(c)));
        }

        boolean takes(List<Integer> word) {
            return isEnd(sheafOf(word));
        }

        /** How many words of n letters make those of a sheaf taken. */
        long count(int s, int n) {
            if (n == 0) {
                return isEnd(sheaves.get(s)) ? 1 : 0;
            }
            Map<Integer, Long> ways = new TreeMap<>();
            for (int b = 0; b < blocks.size(); b++) {
                ways.merge(step(s, blocks.get(b)), (long) blockLength(b), Long::sum);
            }
            long sum = 0;
            for (Map.Entry<Integer, Long> way : ways.entrySet()) {
                sum += way.getValue() * count(way.getKey(), n - 1);
            }
            return sum;
        }

        /** How many words that are taken, as long as this one, come ahead of it. */
        long place(List<Integer> word) {
            long sum = 0;
            int s = 0;
            for (int i = 0; i < word.size(); i++) {
                long[] after = new long[sheaves.size()];
                for (int t = 0; t < after.length; t++) {
                    after[t] = -1;
                }
                int letter = 0;
                while (letter < word.get(i)) {
                    int b = blockOf(letter);
                    int until = Math.min(word.get(i), blocks.get(b) + blockLength(b));
                    int t = step(s, letter);
                    if (after[t] < 0) {
                        after[t] = count(t, word.size() - 1 - i);
                    }
                    sum += (until - letter) * after[t];
                    letter = until;
                }
                s = step(s, word.get(i));
            }
            return sum;
        }

        /** By halving: the greatest word ahead of which there are no more than k is the k-th. */
        List<Integer> kth(int n, long k) {
            long low = 0;
            long high = (1L << 16 * n) - 1;
            while (low < high) {
                long middle = low + (high - low + 1) / 2;
                if (place(wordOf(middle, n)) <= k) {
                    low = middle;
                } else {
                    high = middle - 1;
                }
            }
            return wordOf(low, n);
        }

        private static List<Integer> wordOf(long number, int n) {
            List<Integer> word = new ArrayList<>();
            for (int i = n - 1; i >= 0; i--) {
                word.add((int) (number >> 16 * i & 65535));
            }
            return word;
        }

        int dead() {
            for (int c = 0; c < classes(); c++) {
                TreeSet<Integer> seen = new TreeSet<>(List.of(c));
                ArrayDeque<Integer> open = new ArrayDeque<>(seen);
                boolean any = false;
                while (!open.isEmpty()) {
                    int d = open.poll();
                    any |= classTakes(d);
                    for (int letter : blocks) {
                        if (seen.add(classStep(d, letter))) {
                            open.add(classStep(d, letter));
                        }
                    }
                }
                if (!any) {
                    return c;
                }
            }
            return -2;
        }

        /** By going through words of ever more letters, up to twice as many as there are sheaves. */
        int longest() {
            int best = -2;
            TreeSet<Integer> now = new TreeSet<>(List.of(0));
            for (int n = 0; n <= 2 * sheaves.size() + 1; n++) {
                for (int s : now) {
                    if (isEnd(sheaves.get(s))) {
                        best = n;
                    }
                }
                TreeSet<Integer> next = new TreeSet<>();
                for (int s : now) {
                    for (int letter : blocks) {
                        next.add(step(s, letter));
                    }
                }
                now = next;
            }
            return best >= sheaves.size() ? -3 : best;
        }

        long useless() {
            long bits = 0;
            for (int q = 0; q < states; q++) {
                boolean fine = false;
                if (ways(0).contains(q)) {
                    fine = !Collections.disjoint(ways(q), ends);
                }
                if (!fine) {
                    bits |= 1L << q;
                }
            }
            return bits;
        }

        private TreeSet<Integer> ways(int q) {
            TreeSet<Integer> seen = new TreeSet<>(List.of(q));
            ArrayDeque<Integer> open = new ArrayDeque<>(seen);
            while (!open.isEmpty()) {
                int p = open.poll();
                for (Free f : frees) {
                    if (f.from == p && seen.add(f.to)) {
                        open.add(f.to);
                    }
                }
                for (Edge e : edges) {
                    if (e.from == p && !e.set.isEmpty() && seen.add(e.to)) {
                        open.add(e.to);
                    }
                }
            }
            return seen;
        }

        /** Minterms of a state: which edges have them, how many letters, least letter. */
        List<int[]> terms(int q) {
            LinkedHashMap<List<Integer>, int[]> groups = new LinkedHashMap<>();
            for (int b = 0; b < blocks.size(); b++) {
                List<Integer> having = new ArrayList<>();
                for (int e = 0; e < edges.size(); e++) {
                    if (edges.get(e).from == q && edges.get(e).set.get(blocks.get(b))) {
                        having.add(e);
                    }
                }
                int least = blocks.get(b);
                int[] group = groups.computeIfAbsent(having, k -> new int[] {least, 0, having.size()});
                group[1] += blockLength(b);
            }
            return new ArrayList<>(groups.values());
        }
    }

    byte[] tape = new byte[0];
    List<BitSet> sets = new ArrayList<>();
    List<Machine> machines = new ArrayList<>();
    int told;
    List<Integer> word = new ArrayList<>();
    int trouble;
    int fault;
    int faultPlace;

    // ---- the text

    private static final Pattern TOKEN = Pattern.compile("([a-z]+)|([0-9]+)|(\\.\\.)|([;|&!()\\[\\],-])");

    private final class Parser {
        final String text;
        int at;
        String token;
        final Map<String, BitSet> names = new LinkedHashMap<>();
        final List<Machine> found = new ArrayList<>();

        Parser(String text) {
            this.text = text;
            next();
        }

        /** The token: a text, "" for the end, null for a byte that begins none. */
        void next() {
            at += token == null ? 0 : token.length();
            while (at < text.length() && text.charAt(at) == ' ') {
                at++;
            }
            if (at == text.length()) {
                token = "";
                return;
            }
            Matcher matcher = TOKEN.matcher(text).region(at, text.length());
            boolean fine = matcher.lookingAt()
                    && (matcher.group(1) == null || matcher.group(1).length() <= 7)
                    && (matcher.group(2) == null || matcher.group(2).length() <= 5);
            token = fine ? matcher.group() : null;
        }

        boolean is(String... some) {
            return token != null && List.of(some).contains(token);
        }

        boolean isName() {
            return token != null && token.matches("[a-z]+")
                    && !is("set", "machine", "edge", "free", "end", "any");
        }

        int whole() {
            if (token == null || !token.matches("[0-9]+")) {
                throw new Fault(1, at);
            }
            return Integer.parseInt(token);
        }

        void bench() {
            line();
            while (is(";")) {
                next();
                line();
            }
            if (!is("")) {
                throw new Fault(1, at);
            }
            if (found.isEmpty()) {
                throw new Fault(7, text.length());
            }
            for (Machine m : found) {
                try {
                    m.finish();
                } catch (TooLarge e) {
                    throw new Fault(8, text.length());
                }
            }
        }

        void line() {
            if (!is("set", "machine", "edge", "free", "end")) {
                throw new Fault(1, at);
            }
            String sort = token;
            Machine last = found.isEmpty() ? null : found.get(found.size() - 1);
            if (last == null && is("edge", "free", "end")) {
                throw new Fault(7, at);
            }
            if (is("set") && names.size() == 12 || is("machine") && found.size() == 4
                    || is("edge") && last.edges.size() == 24 || is("free") && last.frees.size() == 8) {
                throw new Fault(5, at);
            }
            next();
            if (sort.equals("set")) {
                if (!isName()) {
                    throw new Fault(1, at);
                }
                if (names.containsKey(token)) {
                    throw new Fault(3, at);
                }
                String name = token;
                next();
                names.put(name, wholeBody());
            } else if (sort.equals("machine")) {
                Machine m = new Machine();
                m.states = whole();
                if (m.states < 1 || m.states > 12) {
                    throw new Fault(4, at);
                }
                next();
                found.add(m);
            } else if (sort.equals("end")) {
                int place = at;
                if (!last.ends.add(state(last))) {
                    throw new Fault(3, place);
                }
            } else {
                int from = state(last);
                int to = state(last);
                if (sort.equals("edge")) {
                    last.edges.add(new Edge(from, to, wholeBody()));
                } else {
                    last.frees.add(new Free(from, to));
                }
            }
        }

        int state(Machine m) {
            int q = whole();
            if (q >= m.states) {
                throw new Fault(2, at);
            }
            next();
            return q;
        }

        BitSet wholeBody() {
            int place = at;
            BitSet set = body(0);
            if (rangesOf(set).size() > 24) {
                throw new Fault(5, place);
            }
            return set;
        }

        BitSet body(int open) {
            BitSet all = meet(open);
            while (is("|")) {
                next();
                all.or(meet(open));
            }
            return all;
        }

        BitSet meet(int open) {
            BitSet left = part(open);
            while (is("&", "-")) {
                boolean both = is("&");
                next();
                BitSet right = part(open);
                if (both) {
                    left.and(right);
                } else {
                    left.andNot(right);
                }
            }
            return left;
        }

        BitSet part(int open) {
            if (is("!", "(")) {
                if (open == 12) {
                    throw new Fault(6, at);
                }
                boolean not = is("!");
                next();
                if (not) {
                    BitSet set = part(open + 1);
                    set.flip(0, ALL);
                    return set;
                }
                BitSet set = body(open + 1);
                expect(")");
                return set;
            }
            BitSet set = new BitSet();
            if (is("any")) {
                set.set(0, ALL);
                next();
            } else if (is("[")) {
                next();
                addRange(set);
                while (is(",")) {
                    next();
                    addRange(set);
                }
                expect("]");
            } else if (isName()) {
                if (!names.containsKey(token)) {
                    throw new Fault(2, at);
                }
                set.or(names.get(token));
                next();
            } else {
                throw new Fault(1, at);
            }
            return set;
        }

        void addRange(BitSet set) {
            int low = bound(0);
            int high = low;
            if (is("..")) {
                next();
                high = bound(low);
            }
            set.set(low, high + 1);
        }

        int bound(int least) {
            int value = whole();
            if (value >= ALL || value < least) {
                throw new Fault(4, at);
            }
            next();
            return value;
        }

        void expect(String sign) {
            if (!is(sign)) {
                throw new Fault(1, at);
            }
            next();
        }
    }

    static List<int[]> rangesOf(BitSet set) {
        List<int[]> ranges = new ArrayList<>();
        for (int at = set.nextSetBit(0); at >= 0; at = set.nextSetBit(at)) {
            int end = set.nextClearBit(at);
            ranges.add(new int[] {at, end - 1});
            at = end;
        }
        return ranges;
    }

    // ---- answers

    private int no(int why) {
        trouble = why;
        return -1;
    }

    private int yes(int answer) {
        trouble = 0;
        return answer;
    }

    private long yesLong(long answer) {
        trouble = 0;
        return answer;
    }

    private Machine get(int m) {
        return m >= 0 && m < machines.size() ? machines.get(m) : null;
    }

    private BitSet getSet(int s) {
        return s >= 0 && s < sets.size() ? sets.get(s) : null;
    }

    private static boolean in(int i, int n) {
        return i >= 0 && i < n;
    }

    static boolean truth(int f, boolean x, boolean y) {
        int bit = x && y ? 8 : y ? 4 : x ? 2 : 1;
        return (f & bit) != 0;
    }

    int feed(int a, int b, int c, int d, int e) {
        if (tape.length + 20 > 900) {
            return -1;
        }
        java.nio.ByteBuffer more = java.nio.ByteBuffer.allocate(tape.length + 20);
        more.put(tape).putInt(a).putInt(b).putInt(c).putInt(d).putInt(e);
        tape = more.array();
        return tape.length;
    }

    int bench(int n) {
        if (n < 0 || n > tape.length) {
            return no(2);
        }
        String text = new String(tape, 0, n, StandardCharsets.ISO_8859_1);
        tape = new byte[0];
        try {
            Parser parser = new Parser(text);
            parser.bench();
            fault = 0;
            sets = new ArrayList<>(parser.names.values());
            machines = parser.found;
            told = machines.size();
            return yes(told);
        } catch (Fault f) {
            fault = f.number;
            faultPlace = f.place;
            return no(4);
        }
    }

    int fault() {
        return fault;
    }

    int where() {
        return trouble == 4 ? faultPlace : -1;
    }

    int ranges(int s) {
        BitSet x = getSet(s);
        return x == null ? no(1) : yes(rangesOf(x).size());
    }

    int range(int s, int i, boolean greatest) {
        BitSet x = getSet(s);
        if (x == null || !in(i, rangesOf(x).size())) {
            return no(1);
        }
        return yes(rangesOf(x).get(i)[greatest ? 1 : 0]);
    }

    int letters(int s) {
        BitSet x = getSet(s);
        return x == null ? no(1) : yes(x.cardinality());
    }

    int has(int s, int letter) {
        BitSet x = getSet(s);
        return x == null ? no(1) : !in(letter, ALL) ? no(2) : yes(x.get(letter) ? 1 : 0);
    }

    private static BitSet mix(BitSet x, BitSet y, int f) {
        BitSet z = new BitSet();
        for (int i = 0; i < ALL; i++) {
            if (truth(f, x.get(i), y.get(i))) {
                z.set(i);
            }
        }
        return z;
    }

    int mixed(int s, int t, int f) {
        if (getSet(s) == null || getSet(t) == null) {
            return no(1);
        }
        return !in(f, 16) ? no(2) : yes(mix(getSet(s), getSet(t), f).cardinality());
    }

    int mixedRanges(int s, int t, int f) {
        if (getSet(s) == null || getSet(t) == null) {
            return no(1);
        }
        return !in(f, 16) ? no(2) : yes(rangesOf(mix(getSet(s), getSet(t), f)).size());
    }

    int mixedRange(int s, int t, int f, int i, boolean greatest) {
        if (getSet(s) == null || getSet(t) == null) {
            return no(1);
        }
        if (!in(f, 16)) {
            return no(2);
        }
        List<int[]> all = rangesOf(mix(getSet(s), getSet(t), f));
        return !in(i, all.size()) ? no(1) : yes(all.get(i)[greatest ? 1 : 0]);
    }

    int size(int m, int what) {
        Machine x = get(m);
        if (x == null || !in(what, 7)) {
            return no(1);
        }
        return yes(switch (what) {
            case 0 -> x.states;
            case 1 -> x.edges.size();
            case 2 -> x.frees.size();
            case 3 -> x.ends.size();
            case 4 -> x.sheaves.size();
            case 5 -> x.blocks.size();
            default -> x.classes();
        });
    }

    int edge(int m, int i, int what) {
        Machine x = get(m);
        if (x == null || !in(i, x.edges.size()) || !in(what, 4)) {
            return no(1);
        }
        Edge e = x.edges.get(i);
        return yes(switch (what) {
            case 0 -> e.from;
            case 1 -> e.to;
            case 2 -> rangesOf(e.set).size();
            default -> e.set.cardinality();
        });
    }

    int edgeRange(int m, int i, int j, boolean greatest) {
        Machine x = get(m);
        if (x == null || !in(i, x.edges.size()) || !in(j, rangesOf(x.edges.get(i).set).size())) {
            return no(1);
        }
        return yes(rangesOf(x.edges.get(i).set).get(j)[greatest ? 1 : 0]);
    }

    int free(int m, int i, boolean to) {
        Machine x = get(m);
        if (x == null || !in(i, x.frees.size())) {
            return no(1);
        }
        return yes(to ? x.frees.get(i).to : x.frees.get(i).from);
    }

    private static long bits(TreeSet<Integer> some) {
        long bits = 0;
        for (int q : some) {
            bits |= 1L << q;
        }
        return bits;
    }

    long ends(int m) {
        return get(m) == null ? no(1) : yesLong(bits(get(m).ends));
    }

    int block(int m, int i) {
        Machine x = get(m);
        return x == null || !in(i, x.blocks.size()) ? no(1) : yes(x.blocks.get(i));
    }

    long sheaf(int m, int i) {
        Machine x = get(m);
        return x == null || !in(i, x.sheaves.size()) ? no(1) : yesLong(bits(x.sheaves.get(i)));
    }

    long useless(int m) {
        return get(m) == null ? no(1) : yesLong(get(m).useless());
    }

    int terms(int m, int q) {
        Machine x = get(m);
        return x == null || !in(q, x.states) ? no(1) : yes(x.terms(q).size());
    }

    int term(int m, int q, int i, int what) {
        Machine x = get(m);
        if (x == null || !in(q, x.states) || !in(i, x.terms(q).size()) || !in(what, 3)) {
            return no(1);
        }
        return yes(x.terms(q).get(i)[what]);
    }

    int go(int m, int c, int letter) {
        Machine x = get(m);
        if (x == null || !in(c, x.classes())) {
            return no(1);
        }
        return !in(letter, ALL) ? no(2) : yes(x.classStep(c, letter));
    }

    int takes(int m, int c) {
        Machine x = get(m);
        return x == null || !in(c, x.classes()) ? no(1) : yes(x.classTakes(c) ? 1 : 0);
    }

    int dead(int m) {
        return get(m) == null ? no(1) : yes(get(m).dead());
    }

    int first(int m, int c) {
        Machine x = get(m);
        return x == null || !in(c, x.classes()) ? no(1) : yes(x.sheafWords.get(x.heads.get(c)).size());
    }

    int firstLetter(int m, int c, int i) {
        Machine x = get(m);
        if (x == null || !in(c, x.classes()) || !in(i, x.sheafWords.get(x.heads.get(c)).size())) {
            return no(1);
        }
        return yes(x.sheafWords.get(x.heads.get(c)).get(i));
    }

    int parting(int m, int c, int d) {
        Machine x = get(m);
        if (x == null || !in(c, x.classes()) || !in(d, x.classes())) {
            return no(1);
        }
        return yes(c == d ? -2 : x.parting(x.heads.get(c), x.heads.get(d)).size());
    }

    int partingLetter(int m, int c, int d, int i) {
        Machine x = get(m);
        if (x == null || !in(c, x.classes()) || !in(d, x.classes()) || c == d
                || !in(i, x.parting(x.heads.get(c), x.heads.get(d)).size())) {
            return no(1);
        }
        return yes(x.parting(x.heads.get(c), x.heads.get(d)).get(i));
    }

    int rounds(int m) {
        Machine x = get(m);
        if (x == null) {
            return no(1);
        }
        int most = 0;
        for (int c = 0; c < x.classes(); c++) {
            for (int d = 0; d < c; d++) {
                most = Math.max(most, x.parting(x.heads.get(c), x.heads.get(d)).size());
            }
        }
        return yes(most);
    }

    int word(int n, int a, int b, int c, int d) {
        int[] four = {a, b, c, d};
        if (!in(n, 5)) {
            return no(2);
        }
        List<Integer> next = new ArrayList<>();
        for (int i = 0; i < n; i++) {
            if (!in(four[i], ALL)) {
                return no(2);
            }
            next.add(four[i]);
        }
        word = next;
        return yes(n);
    }

    int more(int letter) {
        if (!in(letter, ALL)) {
            return no(2);
        }
        if (word.size() == 16) {
            return no(3);
        }
        word.add(letter);
        return yes(word.size());
    }

    int taken(int m) {
        return get(m) == null ? no(1) : yes(get(m).takes(word) ? 1 : 0);
    }

    long leads(int m) {
        return get(m) == null ? no(1) : yesLong(bits(get(m).sheafOf(word)));
    }

    int classOf(int m) {
        Machine x = get(m);
        if (x == null) {
            return no(1);
        }
        x.findClasses();
        return yes(x.classOfSheaf[x.sheafNumbers.get(x.sheafOf(word))]);
    }

    long place(int m) {
        return get(m) == null ? no(1) : word.size() > 3 ? no(5) : yesLong(get(m).place(word));
    }

    long count(int m, int n) {
        return get(m) == null ? no(1) : !in(n, 4) ? no(2) : yesLong(get(m).count(0, n));
    }

    int at(int m, int n, long k, int i) {
        Machine x = get(m);
        if (x == null) {
            return no(1);
        }
        if (n < 1 || n > 3) {
            return no(2);
        }
        if (k < 0 || k >= x.count(0, n) || !in(i, n)) {
            return no(1);
        }
        return yes(x.kth(n, k).get(i));
    }

    int longest(int m) {
        return get(m) == null ? no(1) : yes(get(m).longest());
    }

    /** The first word of which f is true, by going through all pairs of sheaves; null without one. */
    private static List<Integer> find(Machine a, Machine b, int f) {
        TreeSet<Integer> letters = new TreeSet<>(a.blocks);
        letters.addAll(b.blocks);
        Map<Integer, List<Integer>> seen = new HashMap<>();
        ArrayDeque<Integer> open = new ArrayDeque<>();
        seen.put(0, List.of());
        open.add(0);
        while (!open.isEmpty()) {
            int pair = open.poll();
            List<Integer> word = seen.get(pair);
            if (truth(f, a.isEnd(a.sheaves.get(pair / 64)), b.isEnd(b.sheaves.get(pair % 64)))) {
                return word;
            }
            for (int letter : letters) {
                int next = a.step(pair / 64, letter) * 64 + b.step(pair % 64, letter);
                if (!seen.containsKey(next)) {
                    List<Integer> longer = new ArrayList<>(word);
                    longer.add(letter);
                    seen.put(next, longer);
                    open.add(next);
                }
            }
        }
        return null;
    }

    int found(int a, int b, int f) {
        if (get(a) == null || get(b) == null) {
            return no(1);
        }
        if (!in(f, 16)) {
            return no(2);
        }
        List<Integer> w = find(get(a), get(b), f);
        return yes(w == null ? -2 : w.size());
    }

    int foundLetter(int a, int b, int f, int i) {
        if (get(a) == null || get(b) == null) {
            return no(1);
        }
        if (!in(f, 16)) {
            return no(2);
        }
        List<Integer> w = find(get(a), get(b), f);
        return w == null || !in(i, w.size()) ? no(1) : yes(w.get(i));
    }

    int same(int a, int b) {
        if (get(a) == null || get(b) == null) {
            return no(1);
        }
        return yes(find(get(a), get(b), 6) == null ? 1 : 0);
    }

    int within(int a, int b) {
        if (get(a) == null || get(b) == null) {
            return no(1);
        }
        return yes(find(get(a), get(b), 2) == null ? 1 : 0);
    }

    private int keep(Machine made) {
        try {
            if (machines.size() == 10) {
                throw new TooLarge();
            }
            made.finish();
        } catch (TooLarge e) {
            return no(3);
        }
        machines.add(made);
        return yes(machines.size() - 1);
    }

    interface Step {
        int after(int state, int letter);
    }

    interface Test {
        boolean of(int state);
    }

    /** A machine whose states are told by what words lead to; letters: one of each block. */
    private static Machine deterministic(int states, List<Integer> letters, Step step, Test end) {
        Machine made = new Machine();
        made.states = states;
        for (int q = 0; q < states; q++) {
            LinkedHashMap<Integer, BitSet> leading = new LinkedHashMap<>();
            for (int i = 0; i < letters.size(); i++) {
                int until = i + 1 < letters.size() ? letters.get(i + 1) : ALL;
                leading.computeIfAbsent(step.after(q, letters.get(i)), k -> new BitSet()).set(letters.get(i), until);
            }
            for (Map.Entry<Integer, BitSet> e : leading.entrySet()) {
                made.edges.add(new Edge(q, e.getKey(), e.getValue()));
            }
            if (end.of(q)) {
                made.ends.add(q);
            }
        }
        return made;
    }

    int sure(int m) {
        Machine x = get(m);
        return x == null ? no(1)
                : keep(deterministic(x.sheaves.size(), x.blocks, x::step, s -> x.isEnd(x.sheaves.get(s))));
    }

    int least(int m) {
        Machine x = get(m);
        return x == null ? no(1) : keep(deterministic(x.classes(), x.blocks, x::classStep, x::classTakes));
    }

    int other(int m) {
        Machine x = get(m);
        return x == null ? no(1) : keep(deterministic(x.classes(), x.blocks, x::classStep, c -> !x.classTakes(c)));
    }

    int join(int a, int b, int f) {
        Machine x = get(a);
        Machine y = get(b);
        if (x == null || y == null) {
            return no(1);
        }
        if (!in(f, 16)) {
            return no(2);
        }
        x.findClasses();
        y.findClasses();
        TreeSet<Integer> cuts = new TreeSet<>(x.blocks);
        cuts.addAll(y.blocks);
        List<Integer> letters = new ArrayList<>(cuts);
        List<List<Integer>> all = new ArrayList<>();
        all.add(List.of(0, 0));
        for (int i = 0; i < all.size(); i++) {
            for (int letter : letters) {
                List<Integer> next = List.of(x.classStep(all.get(i).get(0), letter), y.classStep(all.get(i).get(1), letter));
                if (!all.contains(next)) {
                    all.add(next);
                }
            }
            if (all.size() > 40) {
                return no(3);
            }
        }
        return keep(deterministic(all.size(), letters,
                (p, l) -> all.indexOf(List.of(x.classStep(all.get(p).get(0), l), y.classStep(all.get(p).get(1), l))),
                p -> truth(f, x.classTakes(all.get(p).get(0)), y.classTakes(all.get(p).get(1)))));
    }

    int behind(int a, int b) {
        Machine x = get(a);
        Machine y = get(b);
        if (x == null || y == null) {
            return no(1);
        }
        Machine made = new Machine();
        int n = x.states;
        made.states = n + y.states;
        made.edges.addAll(x.edges);
        y.edges.forEach(e -> made.edges.add(new Edge(e.from + n, e.to + n, e.set)));
        made.frees.addAll(x.frees);
        y.frees.forEach(e -> made.frees.add(new Free(e.from + n, e.to + n)));
        x.ends.forEach(q -> made.frees.add(new Free(q, n)));
        y.ends.forEach(q -> made.ends.add(q + n));
        return keep(made);
    }

    int again(int m) {
        Machine x = get(m);
        if (x == null) {
            return no(1);
        }
        Machine made = new Machine();
        made.states = x.states + 1;
        made.ends.add(0);
        made.frees.add(new Free(0, 1));
        x.ends.forEach(q -> made.frees.add(new Free(q + 1, 0)));
        x.frees.forEach(e -> made.frees.add(new Free(e.from + 1, e.to + 1)));
        x.edges.forEach(e -> made.edges.add(new Edge(e.from + 1, e.to + 1, e.set)));
        return keep(made);
    }

    int backwards(int m) {
        Machine x = get(m);
        if (x == null) {
            return no(1);
        }
        Machine made = new Machine();
        made.states = x.states + 1;
        made.ends.add(1);
        x.ends.forEach(q -> made.frees.add(new Free(0, q + 1)));
        x.frees.forEach(e -> made.frees.add(new Free(e.to + 1, e.from + 1)));
        x.edges.forEach(e -> made.edges.add(new Edge(e.to + 1, e.from + 1, e.set)));
        return keep(made);
    }

    private static Machine likeBut(Machine x, List<BitSet> edgeSets) {
        Machine made = new Machine();
        made.states = x.states;
        made.ends.addAll(x.ends);
        made.frees.addAll(x.frees);
        for (int i = 0; i < x.edges.size(); i++) {
            if (!edgeSets.get(i).isEmpty()) {
                made.edges.add(new Edge(x.edges.get(i).from, x.edges.get(i).to, edgeSets.get(i)));
            }
        }
        return made;
    }

    int only(int m, int s) {
        Machine x = get(m);
        if (x == null || getSet(s) == null) {
            return no(1);
        }
        List<BitSet> edgeSets = new ArrayList<>();
        for (Edge e : x.edges) {
            BitSet both = (BitSet) e.set.clone();
            both.and(getSet(s));
            edgeSets.add(both);
        }
        return keep(likeBut(x, edgeSets));
    }

    int moved(int m, int k) {
        Machine x = get(m);
        if (x == null) {
            return no(1);
        }
        if (k < -65535 || k > 65535) {
            return no(2);
        }
        List<BitSet> edgeSets = new ArrayList<>();
        for (Edge e : x.edges) {
            BitSet far = new BitSet();
            e.set.stream().map(l -> l + k).filter(l -> in(l, ALL)).forEach(far::set);
            edgeSets.add(far);
        }
        return keep(likeBut(x, edgeSets));
    }

    int past(int m, int letter) {
        Machine x = get(m);
        if (x == null) {
            return no(1);
        }
        if (!in(letter, ALL)) {
            return no(2);
        }
        Machine made = new Machine();
        made.states = x.states + 1;
        x.sheafOf(List.of(letter)).forEach(q -> made.frees.add(new Free(0, q + 1)));
        x.frees.forEach(e -> made.frees.add(new Free(e.from + 1, e.to + 1)));
        x.edges.forEach(e -> made.edges.add(new Edge(e.from + 1, e.to + 1, e.set)));
        x.ends.forEach(q -> made.ends.add(q + 1));
        return keep(made);
    }

    int drop() {
        if (machines.size() == told) {
            return no(1);
        }
        machines.remove(machines.size() - 1);
        return yes(machines.size());
    }

    int twin(int m) {
        for (int i = 0; get(m) != null && i < m; i++) {
            if (find(get(i), get(m), 6) == null) {
                return i;
            }
        }
        throw new NoSuchElementException();
    }

    int total(int what) {
        return switch (what) {
            case 0 -> sets.size();
            case 1 -> told;
            case 2 -> machines.size();
            case 3 -> word.size();
            case 4 -> tape.length;
            default -> -1;
        };
    }

    int letter(int i) {
        return in(i, word.size()) ? yes(word.get(i)) : no(1);
    }

    int trouble() {
        return trouble;
    }
}
