import java.util.ArrayList;
import java.util.Arrays;
import java.util.BitSet;
import java.util.List;
import java.util.Random;
import java.util.function.Predicate;

/**
 * Small random machines, asked by the definitions of the Terms alone: all WORDS of a few LETTERS are gone through one by
 * one, in their order, with no BLOCKS, no rounds and no ways kept. Two arguments may be told: the first seed, how many
 * benches.
 */
public final class DefinitionTest {
    /** No bound in the texts is greater than 5, so that 6 stands for all LETTERS from 6 on. */
    private static final int LETTERS = 7;
    private static final int LONGEST = 4;
    private static final List<int[]> WORDS = words(LETTERS, LONGEST);

    /** A machine as the object tells it. */
    private record Told(int states, int[][] edges, boolean[][] letters, int[][] frees, long ends) {
        static Told of(Subject x, int m) {
            int[][] edges = new int[(int) ask(x, "size", m, 1)][];
            boolean[][] letters = new boolean[edges.length][LETTERS];
            for (int e = 0; e < edges.length; e++) {
                edges[e] = new int[] {(int) ask(x, "edge", m, e, 0), (int) ask(x, "edge", m, e, 1)};
                for (int r = 0; r < ask(x, "edge", m, e, 2); r++) {
                    long least = ask(x, "edgeRange", m, e, r, false);
                    long greatest = ask(x, "edgeRange", m, e, r, true);
                    for (int letter = 0; letter < LETTERS; letter++) {
                        letters[e][letter] |= least <= letter && letter <= greatest;
                    }
                }
            }
            int[][] frees = new int[(int) ask(x, "size", m, 2)][];
            for (int i = 0; i < frees.length; i++) {
                frees[i] = new int[] {(int) ask(x, "free", m, i, false), (int) ask(x, "free", m, i, true)};
            }
            return new Told((int) ask(x, "size", m, 0), edges, letters, frees, ask(x, "ends", m));
        }

        /** The states to which a word leads. */
        long sheaf(int... word) {
            long now = freely(1);
            for (int letter : word) {
                long next = 0;
                for (int e = 0; e < edges.length; e++) {
                    if ((now >> edges[e][0] & 1) == 1 && letters[e][letter]) {
                        next |= 1L << edges[e][1];
                    }
                }
                now = freely(next);
            }
            return now;
        }

        private long freely(long some) {
            long now = some;
            for (int turn = 0; turn < states; turn++) {
                for (int[] free : frees) {
                    now |= (now >> free[0] & 1) << free[1];
                }
            }
            return now;
        }

        boolean takes(int... word) {
            return (sheaf(word) & ends) != 0;
        }

        /** Which words of WORDS, behind some word, make it taken. */
        BitSet future(int[] word) {
            BitSet taken = new BitSet();
            for (int i = 0; i < WORDS.size(); i++) {
                taken.set(i, takes(both(word, WORDS.get(i))));
            }
            return taken;
        }
    }

    public static void main(String[] args) {
        long first = args.length > 0 ? Long.parseLong(args[0]) : 1;
        long benches = args.length > 1 ? Long.parseLong(args[1]) : 300;
        for (long seed = first; seed < first + benches; seed++) {
            Random random = new Random(seed);
            String text = text(random);
            Subject x = new Subject();
            Subject.feeds(Subject.bytesOf(text)).forEach(x::ask);
            due(text, ask(x, "bench", text.length()), 2);
            Told a = Told.of(x, 0);
            Told b = Told.of(x, 1);
            sheaves(text, x, a);
            classes(text, x, a);
            longest(text, x, a);
            twoMachines(text, x, a, b);
            madeOfTwo(text, x, a, b, random);
            madeOfOne(text, x, a, random);
            counts(text, x, random);
        }
        Bench.end();
    }

    /** I, 4, 19, 20, 33, 34: SHEAVES are numbered by the first WORDS that lead to them. */
    private static void sheaves(String text, Subject x, Told a) {
        List<Long> met = new ArrayList<>();
        for (int[] word : WORDS) {
            long sheaf = a.sheaf(word);
            if (!met.contains(sheaf)) {
                met.add(sheaf);
                say(x, word);
                due(text + " leads", ask(x, "leads", 0), sheaf);
                due(text + " taken", ask(x, "taken", 0), a.takes(word) ? 1 : 0);
            }
        }
        long all = ask(x, "size", 0, 4);
        due(text + " sheaves", all >= met.size() ? 1 : 0, 1);
        for (int i = 0; i < met.size(); i++) {
            due(text + " sheaf " + i, ask(x, "sheaf", 0, i), met.get(i));
        }
        long onWay = 0;
        for (int[] word : WORDS) {
            // a state is on a way if some word leads to it and another from it to an end
            for (int q = 0; q < a.states; q++) {
                if ((a.sheaf(word) >> q & 1) == 1 && (onWay >> q & 1) == 0 && ends(a, q)) {
                    onWay |= 1L << q;
                }
            }
        }
        due(text + " useless", ask(x, "useless", 0), (1L << a.states) - 1 & ~onWay);
    }

    /** Whether an END can be gone to from a state. */
    private static boolean ends(Told a, int q) {
        long now = 1L << q;
        for (int turn = 0; turn < a.states; turn++) {
            for (int[] free : a.frees) {
                now |= (now >> free[0] & 1) << free[1];
            }
            for (int e = 0; e < a.edges.length; e++) {
                boolean some = false;
                for (boolean has : a.letters[e]) {
                    some |= has;
                }
                now |= some ? (now >> a.edges[e][0] & 1) << a.edges[e][1] : 0;
            }
        }
        return (now & a.ends) != 0;
    }

    /** I, 13, 23 to 30, 35: CLASSES are what no WORD behind parts, numbered by their first WORDS. */
    private static void classes(String text, Subject x, Told a) {
        List<BitSet> futures = new ArrayList<>();
        List<int[]> firsts = new ArrayList<>();
        List<Long> seen = new ArrayList<>();
        for (int[] word : WORDS) {
            // words of one sheaf have one future
            if (seen.contains(a.sheaf(word))) {
                continue;
            }
            seen.add(a.sheaf(word));
            BitSet future = a.future(word);
            if (!futures.contains(future)) {
                futures.add(future);
                firsts.add(word);
            }
            say(x, word);
            due(text + " class", ask(x, "classOf", 0), futures.indexOf(future));
        }
        due(text + " classes", ask(x, "size", 0, 6), futures.size());
        due(text + " dead", ask(x, "dead", 0), futures.contains(new BitSet()) ? futures.indexOf(new BitSet()) : -2);
        int rounds = 0;
        for (int c = 0; c < futures.size(); c++) {
            int[] first = firsts.get(c);
            due(text + " takes", ask(x, "takes", 0, c), futures.get(c).get(0) ? 1 : 0);
            dueWord(text + " first", x, first, "first", "firstLetter", 0, c);
            for (int letter = 0; letter < LETTERS; letter++) {
                int to = futures.indexOf(a.future(both(first, letter)));
                due(text + " go", ask(x, "go", 0, c, letter == LETTERS - 1 ? 65535 : letter), to);
            }
            for (int d = 0; d < futures.size(); d++) {
                BitSet other = (BitSet) futures.get(d).clone();
                other.xor(futures.get(c));
                int[] parting = c == d ? null : WORDS.get(other.nextSetBit(0));
                rounds = Math.max(rounds, c == d ? 0 : parting.length);
                dueWord(text + " parting", x, parting, "parting", "partingLetter", 0, c, d);
            }
        }
        due(text + " rounds", ask(x, "rounds", 0), rounds);
    }

    /** 39: there is no longest, if some taken is as long as there are sheaves. */
    private static void longest(String text, Subject x, Told a) {
        long sheaves = ask(x, "size", 0, 4);
        List<Long> now = new ArrayList<>(List.of(a.sheaf()));
        List<int[]> words = new ArrayList<>(List.of(new int[0]));
        int longest = -2;
        for (int n = 0; n < 2 * sheaves; n++) {
            List<Long> next = new ArrayList<>();
            List<int[]> longer = new ArrayList<>();
            for (int[] word : words) {
                longest = a.takes(word) ? n : longest;
                for (int letter = 0; letter < LETTERS; letter++) {
                    long sheaf = a.sheaf(both(word, letter));
                    if (!next.contains(sheaf)) {
                        next.add(sheaf);
                        longer.add(both(word, letter));
                    }
                }
            }
            words = longer;
        }
        due(text + " longest", ask(x, "longest", 0), longest >= sheaves ? -3 : longest);
    }

    /** 40 to 43. */
    private static void twoMachines(String text, Subject x, Told a, Told b) {
        for (int f = 0; f < 16; f++) {
            int[] found = null;
            for (int i = 0; i < WORDS.size() && found == null; i++) {
                int[] word = WORDS.get(i);
                found = Oracle.truth(f, a.takes(word), b.takes(word)) ? word : null;
            }
            // a word too long for these would be found by the object alone
            if (found != null || ask(x, "found", 0, 1, f) <= LONGEST) {
                dueWord(text + " found " + f, x, found, "found", "foundLetter", 0, 1, f);
            }
        }
        due(text + " same", ask(x, "same", 0, 1), ask(x, "found", 0, 1, 6) == -2 ? 1 : 0);
        due(text + " within", ask(x, "within", 0, 1), ask(x, "found", 0, 1, 2) == -2 ? 1 : 0);
    }

    /** 47, 48, by what is taken. */
    private static void madeOfTwo(String text, Subject x, Told a, Told b, Random random) {
        int f = random.nextInt(16);
        made(text, x, "join 0 1 " + f, word -> Oracle.truth(f, a.takes(word), b.takes(word)));
        made(text, x, "behind 0 1", word -> {
            boolean taken = false;
            for (int cut = 0; cut <= word.length; cut++) {
                taken |= a.takes(Arrays.copyOf(word, cut)) && b.takes(Arrays.copyOfRange(word, cut, word.length));
            }
            return taken;
        });
    }

    /** 44 to 46, 49 to 53, by what is taken. */
    private static void madeOfOne(String text, Subject x, Told a, Random random) {
        made(text, x, "sure 0", a::takes);
        made(text, x, "least 0", a::takes);
        made(text, x, "other 0", word -> !a.takes(word));
        made(text, x, "again 0", word -> many(a, word));
        made(text, x, "backwards 0", word -> a.takes(turned(word)));
        made(text, x, "only 0 0", word -> Arrays.stream(word).allMatch(letter -> letter == 1 || letter == 3) && a.takes(word));
        made(text, x, "moved 0 1", word -> Arrays.stream(word).allMatch(letter -> letter > 0)
                && a.takes(Arrays.stream(word).map(letter -> letter - 1).toArray()));
        // what comes down to 6 was 7, for which 6 stands, too
        made(text, x, "moved 0 -1", word -> a.takes(Arrays.stream(word).map(letter -> Math.min(letter + 1, LETTERS - 1))
                .toArray()));
        int letter = random.nextInt(LETTERS);
        made(text, x, "past 0 " + letter, word -> a.takes(both(new int[] {letter}, word)));
    }

    /** Whether a word is none, or some that are taken, one behind the other. */
    private static boolean many(Told a, int[] word) {
        boolean[] reached = new boolean[word.length + 1];
        reached[0] = true;
        for (int from = 0; from < word.length; from++) {
            for (int to = from + 1; reached[from] && to <= word.length; to++) {
                reached[to] |= a.takes(Arrays.copyOfRange(word, from, to));
            }
        }
        return reached[word.length];
    }

    /** What is made takes just the words for which the truth holds; it is dropped again. */
    private static void made(String text, Subject x, String call, Predicate<int[]> truth) {
        long m = Long.parseLong(x.ask(call));
        if (m < 0) {
            due(text + " " + call, Long.parseLong(x.ask("trouble")), 3);
            return;
        }
        Told it = Told.of(x, (int) m);
        for (int[] word : WORDS) {
            if (it.takes(word) != truth.test(word)) {
                due(text + " " + call + " takes " + Arrays.toString(word), it.takes(word) ? 1 : 0, truth.test(word) ? 1 : 0);
                return;
            }
        }
        due(text + " " + call, ask(x, "drop"), m);
    }

    /** 36 to 38, of a machine that has only a few letters. */
    private static void counts(String text, Subject x, Random random) {
        int m = (int) ask(x, "only", 0, 1);
        Told it = Told.of(x, m);
        for (int n = 0; n <= 3; n++) {
            List<int[]> taken = new ArrayList<>();
            for (int[] word : WORDS) {
                if (word.length == n && it.takes(word)) {
                    taken.add(word);
                }
            }
            due(text + " count " + n, ask(x, "count", m, n), taken.size());
            for (int turn = 0; turn < 4 && !taken.isEmpty(); turn++) {
                int k = turn == 0 ? taken.size() - 1 : random.nextInt(taken.size());
                for (int i = 0; i < n; i++) {
                    due(text + " at", ask(x, "at", m, n, k, i), taken.get(k)[i]);
                }
                say(x, taken.get(k));
                due(text + " place", ask(x, "place", m), k);
            }
            int[] greatest = new int[n];
            Arrays.fill(greatest, 65535);
            say(x, greatest);
            due(text + " place at last", ask(x, "place", m), n == 0 ? 0 : taken.size());
        }
    }

    /** How many letters a word has and which; -2 without one. */
    private static void dueWord(String what, Subject x, int[] word, String length, String letter, Object... arguments) {
        due(what, ask(x, length, arguments), word == null ? -2 : word.length);
        for (int i = 0; word != null && i < word.length; i++) {
            Object[] more = Arrays.copyOf(arguments, arguments.length + 1);
            more[arguments.length] = i;
            due(what, ask(x, letter, more), word[i]);
        }
    }

    private static void due(String what, long got, long due) {
        Bench.due(what, got, due);
    }

    private static long ask(Subject x, String name, Object... arguments) {
        StringBuilder call = new StringBuilder(name);
        for (Object argument : arguments) {
            call.append(' ').append(argument);
        }
        return Long.parseLong(x.ask(call.toString()));
    }

    /** THE WORD becomes one of four letters at most. */
    private static void say(Subject x, int[] word) {
        int[] four = Arrays.copyOf(word, 4);
        ask(x, "word", word.length, four[0], four[1], four[2], four[3]);
    }

    private static int[] both(int[] word, int... behind) {
        int[] both = Arrays.copyOf(word, word.length + behind.length);
        System.arraycopy(behind, 0, both, word.length, behind.length);
        return both;
    }

    private static int[] turned(int[] word) {
        int[] turned = new int[word.length];
        for (int i = 0; i < word.length; i++) {
            turned[i] = word[word.length - 1 - i];
        }
        return turned;
    }

    /** All words of some letters, none longer than told, in their order. */
    private static List<int[]> words(int letters, int longest) {
        List<int[]> words = new ArrayList<>(List.of(new int[0]));
        for (int i = 0; words.get(i).length < longest; i++) {
            for (int letter = 0; letter < letters; letter++) {
                words.add(both(words.get(i), letter));
            }
        }
        return words;
    }

    /** Two machines of few states, so that words of four letters part what can be parted. */
    private static String text(Random random) {
        StringBuilder text = new StringBuilder("set s [1,3];set few [0..5]");
        for (int m = 0; m < 2; m++) {
            int states = 1 + random.nextInt(3);
            text.append(";machine ").append(states);
            for (int edges = 1 + random.nextInt(4); edges > 0; edges--) {
                text.append(";edge ").append(random.nextInt(states)).append(' ').append(random.nextInt(states))
                        .append(' ').append(body(random));
            }
            for (int frees = random.nextInt(3) - 1; frees > 0; frees--) {
                text.append(";free ").append(random.nextInt(states)).append(' ').append(random.nextInt(states));
            }
            for (int q = 0; q < states; q++) {
                text.append(random.nextInt(2) == 0 ? ";end " + q : "");
            }
        }
        return text.toString();
    }

    private static String body(Random random) {
        int least = random.nextInt(5);
        int greatest = least + random.nextInt(6 - least);
        String range = "[" + least + (random.nextBoolean() ? "" : ".." + greatest) + "]";
        return switch (random.nextInt(6)) {
            case 0 -> "any";
            case 1 -> "!" + range;
            case 2 -> "s-" + range;
            case 3 -> "s|" + range;
            default -> range;
        };
    }
}
