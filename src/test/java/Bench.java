import java.util.ArrayList;
import java.util.HashMap;
import java.util.List;
import java.util.Map;

/**
 * An object under test whose answers are held against those that are due. A call that is refused must leave all as it
 * was, so everything that can be seen of the object is looked at ahead of it and behind it.
 */
final class Bench {
    private static final Map<String, Picture> PICTURES = new HashMap<>();
    private static int wrong;
    private static int answers;

    /** What can be seen of an object but TROUBLE and where(): of THE TAPE and the FAULT, and all the rest. */
    private record Picture(List<String> tape, List<String> rest) { }

    private final Subject subject;

    Bench() {
        this(new Subject());
    }

    private Bench(Subject subject) {
        this.subject = subject;
    }

    /** A new object that has read a text without fault. */
    static Bench of(String text) {
        Bench bench = new Bench();
        bench.tell(text);
        bench.plain("fault", 0);
        bench.plain("trouble", 0);
        return bench;
    }

    /**
     * A new object with something of all sorts. SETS: 0 low, 1 all, 2 none. MACHINES: 0 takes two letters or more, some
     * of low and then one of 3..7 or 65,535; 1 takes nothing; 2 takes even words; 3 is made, least of 0. THE WORD is 1 3.
     */
    static Bench full() {
        Bench bench = of("set low [1..5,9];set all any;set none low-low;"
                + "machine 3;edge 0 1 low;edge 1 2 [3..7,65535];free 1 0;end 2;machine 1;"
                + "machine 2;edge 0 1 any;edge 1 0 any;end 0");
        bench.yes("word 2 1 3 0 0", 2);
        bench.yes("least 0", 3);
        return bench;
    }

    /** Another object with the same past. */
    Bench copy() {
        return new Bench(subject.copy());
    }

    /** Feeds a text and reads it: what bench() answers. */
    long tell(String text) {
        byte[] bytes = Subject.bytesOf(text);
        feed(bytes);
        return ask("bench " + bytes.length);
    }

    /** Feeds bytes, and blanks behind them. */
    void feed(byte[] bytes) {
        for (String call : Subject.feeds(bytes)) {
            ask(call);
        }
    }

    /** A text with a fault at a place. */
    void faulty(String text, int fault, int place) {
        byte[] bytes = Subject.bytesOf(text);
        feed(bytes);
        faulty(bytes.length, fault, place, text);
    }

    /** A fault in the first n bytes of THE TAPE: it is empty then, what was told before stays. */
    void faulty(int n, int fault, int place, String text) {
        List<String> rest = picture().rest;
        due("bench of " + text, ask("bench " + n), -1);
        due("trouble behind " + text, ask("trouble"), 4);
        due("fault of " + text, ask("fault"), fault);
        due("where of " + text, ask("where"), place);
        due("total 4 behind " + text, ask("total 4"), 0);
        alike("bench of " + text, picture().rest, rest);
    }

    /** A text without fault. */
    void fine(String text, int machinesTold) {
        due("bench of " + text, tell(text), machinesTold);
        plain("trouble", 0);
        due("fault of " + text, ask("fault"), 0);
        plain("where", -1);
        plain("total 1", machinesTold);
        plain("total 2", machinesTold);
        plain("total 4", 0);
    }

    /** A call that is not refused. */
    void yes(String call, long answer) {
        due(call, ask(call), answer);
        due("trouble behind " + call, ask("trouble"), 0);
        due("where behind " + call, ask("where"), -1);
    }

    /** A call that is refused, but not by 4: nothing but TROUBLE and where() is another. */
    void no(String call, int trouble) {
        Picture before = picture();
        due(call, ask(call), -1);
        due("trouble behind " + call, ask("trouble"), trouble);
        due("where behind " + call, ask("where"), -1);
        Picture after = picture();
        alike(call, after.rest, before.rest);
        alike(call, after.tape, before.tape);
    }

    /** A call refused for each number outside 0 .. n - 1 that stands for its #. */
    void none(String call, int n, int trouble) {
        for (int i : outside(n)) {
            no(call.replace("#", String.valueOf(i)), trouble);
        }
    }

    /** Numbers beside 0 .. n - 1, and far ones that come into it if they are doubled, or if bits of them are lost. */
    private static int[] outside(int n) {
        return new int[] {-1, n, n + 1, -n - 1, 1 << 16 | n, 1 << 30, Integer.MAX_VALUE, Integer.MIN_VALUE};
    }

    /** A call that leaves TROUBLE and where() as they were. */
    void plain(String call, long answer) {
        long trouble = ask("trouble");
        long where = ask("where");
        due(call, ask(call), answer);
        due("trouble behind " + call, ask("trouble"), trouble);
        due("where behind " + call, ask("where"), where);
    }

    /** A call like plain() that changes nothing at all. */
    void still(String call, long answer) {
        Picture before = picture();
        plain(call, answer);
        Picture after = picture();
        alike(call, after.rest, before.rest);
        alike(call, after.tape, before.tape);
    }

    /** A call that throws NoSuchElementException and changes nothing at all. */
    void lacks(String call) {
        Picture before = picture();
        long trouble = ask("trouble");
        long where = ask("where");
        String thrown = subject.ask(call);
        due(call + " " + thrown, thrown.equals("throws NoSuchElementException") ? 1 : 0, 1);
        due("trouble behind " + call, ask("trouble"), trouble);
        due("where behind " + call, ask("where"), where);
        Picture after = picture();
        alike(call, after.rest, before.rest);
        alike(call, after.tape, before.tape);
    }

    /** A word's letters, asked one by one by a call that tells how many there are and one that tells each. */
    void word(String howMany, String each, int... letters) {
        yes(howMany, letters.length);
        for (int i = 0; i < letters.length; i++) {
            yes(each + " " + i, letters[i]);
        }
        no(each + " " + letters.length, 1);
        no(each + " -1", 1);
    }

    /** Edges of a machine: each as "from to low-high,low-high". */
    void edges(int m, String... edges) {
        yes("size " + m + " 1", edges.length);
        for (int i = 0; i < edges.length; i++) {
            String[] parts = edges[i].split(" ");
            yes("edge " + m + " " + i + " 0", Long.parseLong(parts[0]));
            yes("edge " + m + " " + i + " 1", Long.parseLong(parts[1]));
            String[] ranges = parts.length < 3 ? new String[0] : parts[2].split(",");
            yes("edge " + m + " " + i + " 2", ranges.length);
            int letters = 0;
            for (int j = 0; j < ranges.length; j++) {
                String[] bounds = ranges[j].split("-");
                int low = Integer.parseInt(bounds[0]);
                int high = Integer.parseInt(bounds[bounds.length - 1]);
                yes("edgeRange " + m + " " + i + " " + j + " false", low);
                yes("edgeRange " + m + " " + i + " " + j + " true", high);
                letters += high - low + 1;
            }
            yes("edge " + m + " " + i + " 3", letters);
        }
    }

    /** Free steps of a machine: each as "from to". */
    void frees(int m, String... frees) {
        yes("size " + m + " 2", frees.length);
        for (int i = 0; i < frees.length; i++) {
            String[] parts = frees[i].split(" ");
            yes("free " + m + " " + i + " false", Long.parseLong(parts[0]));
            yes("free " + m + " " + i + " true", Long.parseLong(parts[1]));
        }
        no("free " + m + " " + frees.length + " true", 1);
    }

    /** What is thrown is no number that is due anywhere. */
    long ask(String call) {
        String answer = subject.ask(call);
        if (answer.startsWith("throws")) {
            wrong++;
            System.out.println(call + " " + answer);
            return Long.MIN_VALUE;
        }
        return Long.parseLong(answer);
    }

    private Picture picture() {
        return PICTURES.computeIfAbsent(subject.story(), story -> {
            List<String> tape = new ArrayList<>();
            Subject x = subject.copy();
            look(x, tape, "fault");
            long bytes = look(x, tape, "total 4");
            List<String> rest = new ArrayList<>();
            lookAtSets(x, rest);
            lookAtMachines(x, rest);
            long letters = look(x, rest, "total 3");
            for (int i = 0; i < letters; i++) {
                look(x, rest, "letter " + i);
            }
            if (bytes > 0) {
                look(x, tape, "bench " + bytes);
                look(x, tape, "fault");
                look(x, tape, "where");
                lookAtSets(x, tape);
                lookAtMachines(x, tape);
            }
            return new Picture(tape, rest);
        });
    }

    private static long look(Subject x, List<String> seen, String call) {
        String answer = x.ask(call);
        seen.add(call + " = " + answer);
        return answer.startsWith("throws") ? 0 : Long.parseLong(answer);
    }

    private static void lookAtSets(Subject x, List<String> seen) {
        long sets = look(x, seen, "total 0");
        for (int s = 0; s < sets; s++) {
            long ranges = look(x, seen, "ranges " + s);
            for (int i = 0; i < ranges; i++) {
                look(x, seen, "range " + s + " " + i + " false");
                look(x, seen, "range " + s + " " + i + " true");
            }
        }
    }

    private static void lookAtMachines(Subject x, List<String> seen) {
        look(x, seen, "total 1");
        long machines = look(x, seen, "total 2");
        for (int m = 0; m < machines; m++) {
            for (String name : new String[] {"ends", "useless", "dead", "rounds", "longest", "leads", "classOf"}) {
                look(x, seen, name + " " + m);
            }
            look(x, seen, "size " + m + " 0");
            long edges = look(x, seen, "size " + m + " 1");
            long frees = look(x, seen, "size " + m + " 2");
            for (int what = 3; what < 7; what++) {
                look(x, seen, "size " + m + " " + what);
            }
            for (int i = 0; i < edges; i++) {
                look(x, seen, "edge " + m + " " + i + " 0");
                look(x, seen, "edge " + m + " " + i + " 1");
                look(x, seen, "edge " + m + " " + i + " 3");
                long ranges = look(x, seen, "edge " + m + " " + i + " 2");
                for (int j = 0; j < ranges; j++) {
                    look(x, seen, "edgeRange " + m + " " + i + " " + j + " false");
                    look(x, seen, "edgeRange " + m + " " + i + " " + j + " true");
                }
            }
            for (int i = 0; i < frees; i++) {
                look(x, seen, "free " + m + " " + i + " false");
                look(x, seen, "free " + m + " " + i + " true");
            }
        }
    }

    private static void alike(String call, List<String> got, List<String> due) {
        answers++;
        for (int i = 0; i < Math.max(got.size(), due.size()); i++) {
            String now = i < got.size() ? got.get(i) : "nothing";
            String then = i < due.size() ? due.get(i) : "nothing";
            if (!now.equals(then)) {
                wrong++;
                System.out.println("behind " + call + ": " + now + ", ahead of it: " + then);
                return;
            }
        }
    }

    static void due(String what, long got, long due) {
        answers++;
        if (got != due) {
            wrong++;
            System.out.println(what + " answered " + got + ", due is " + due);
        }
    }

    static void end() {
        System.out.println(wrong == 0 ? answers + " answers are as due" : wrong + " answers are not as due");
        if (wrong != 0) {
            System.exit(1);
        }
    }
}
