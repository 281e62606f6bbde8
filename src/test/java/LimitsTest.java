import java.util.Random;

/** Machines as large as there is room for, and one step beyond; every answer about them held against the oracle's. */
public final class LimitsTest {
    private static final Random RANDOM = new Random(5);

    public static void main(String[] args) {
        blocks();
        edges();
        frees();
        sheaves();
        pairs();
        frayed();
        fullTape();
        Bench.end();
    }

    /** 128 blocks, of which the last is a range of its own, and edges behind it that begin with the first. */
    private static void blocks() {
        String many = "set s " + Parts.singles(1, 24) + ";machine 3" + Parts.edge(0, 1, Parts.singles(1, 21))
                + Parts.edge(0, 2, Parts.singles(43, 21)) + Parts.edge(1, 2, Parts.singles(85, 21));
        Both x = new Both();
        x.tell(many + ";edge 1 1 [65535];edge 2 0 [0];edge 2 1 any;end 2");
        Bench.due("blocks", number(x, "size 0 5"), 128);
        for (int k : new int[] {0, 1, -1, 2, 65409, 65410, -128, -127}) {
            x.same("moved", 0, k);
            askAll(x);
            x.same("drop");
        }
        make(x, "sure 0", "least 0", "other 1", "again 0", "backwards 0", "past 0 1", "only 0 0", "behind 0 0");
        askAll(x);
        for (int f = 0; f < 16; f++) {
            x.same("drop");
            x.same("join", 0, 0, f);
        }
        // one block more
        Both z = new Both();
        z.tell(many + ";edge 1 1 [127,65535]");
        Bench.due("fault", number(z, "fault"), 8);
        // states that only far blocks lead to
        Both far = new Both();
        far.tell("machine 4" + Parts.edge(0, 0, Parts.singles(1, 24)) + Parts.edge(0, 0, Parts.singles(101, 24))
                + ";edge 0 1 [900];edge 1 2 [901];edge 2 3 [800..899];end 3");
        askAll(far);
        // more blocks than a draft has, all in the first state or some in each
        for (int step = 1; step <= 3; step++) {
            StringBuilder text = new StringBuilder("machine 2;end 1");
            for (int i = 0; i < 8; i++) {
                text.append(";edge ").append(i % step % 2).append(" 1 ").append(Parts.singles(100 + 50 * i, 20 + step));
            }
            Both wide = new Both();
            wide.tell(text.toString());
            Bench.due("fault", number(wide, "fault"), 8);
        }
    }

    private static void edges() {
        Both x = new Both();
        StringBuilder text = new StringBuilder("machine 2;end 1");
        for (int i = 0; i < 20; i++) {
            text.append(";edge ").append(i % 2).append(' ').append(i / 2 % 2).append(" [").append(i).append("..")
                    .append(2 * i).append(']');
        }
        x.tell(text.toString());
        make(x, "behind 0 0", "behind 1 1", "behind 2 0", "behind 2 1", "behind 2 2", "behind 3 2");
        askAll(x);
    }

    private static void frees() {
        Both x = new Both();
        x.tell("machine 9;free 0 1;free 1 2;free 2 3;free 3 0;free 4 5;free 6 4;free 5 6;free 7 0;edge 3 4 [5];edge 6 7 [6];"
                + "end 8;end 7;edge 7 8 [7..9];machine 5;free 3 4;free 2 3;free 1 2;free 0 1;end 4;"
                + "machine 5;free 0 1;free 1 2;free 2 3;free 3 4;end 4;"
                + "machine 5;free 2 3;free 0 1;free 3 4;free 1 2;end 4");
        make(x, "behind 0 0", "behind 4 4", "again 4", "backwards 4", "past 4 5", "behind 5 1");
        askAll(x);
    }

    /** 40 sheaves, all but one of them a class. */
    private static void sheaves() {
        Both x = new Both();
        x.tell("set s [1];machine 12;edge 0 1 [0..8];edge 1 2 any;edge 2 3 any;edge 3 4 any;edge 4 5 any;edge 5 6 any;"
                + "edge 6 6 any;edge 6 7 [1];edge 7 8 any;edge 8 9 any;edge 9 10 any;edge 10 11 any;edge 4 6 [2];end 11");
        Bench.due("sheaves", number(x, "size 0 4"), 40);
        make(x, "sure 0", "least 0", "other 0", "join 0 0 8", "join 1 0 6", "join 2 3 14", "only 0 0", "again 0",
                "backwards 0", "past 0 2");
        Bench.due("states of sure", number(x, "size 1 0"), 40);
        Bench.due("states of least", number(x, "size 2 0"), 39);
        askAll(x);
        x.same("drop");
        x.same("sure", 1);
        for (int f = 0; f < 16; f++) {
            x.same("found", 0, 3, f);
            x.same("found", 1, 2, f);
        }
    }

    /** Rings of 5 and 8 make 40 pairs, of 6 and 7 make 42. */
    private static void pairs() {
        Both x = new Both();
        x.tell(Parts.ring(5, 4) + ";" + Parts.ring(8, 7));
        make(x, "join 0 1 8", "join 1 0 6", "join 2 1 2", "join 2 3 14");
        Bench.due("pairs", number(x, "size 2 0"), 40);
        askAll(x);
        Both y = new Both();
        y.tell(Parts.ring(6, 5) + ";" + Parts.ring(7, 6));
        make(y, "join 0 1 8", "join 1 0 6", "join 0 0 4");
        Both z = new Both();
        z.tell(Parts.ring(11, 10) + ";" + Parts.ring(12, 11));
        for (int f = 0; f < 16; f++) {
            z.same("found", 0, 1, f);
            for (int i = -1; i < 133; i += 7) {
                z.same("foundLetter", 0, 1, f, i);
            }
        }
    }

    /** Sets of many parts, whose cuts come to hundreds before they are few. */
    private static void frayed() {
        StringBuilder ones = new StringBuilder("[");
        for (int i = 0; i < 200; i++) {
            ones.append(i == 0 ? "" : ",").append(2 * i);
        }
        ones.append(']');
        Both x = new Both();
        x.tell("set a (" + ones + ")&[11..40];set b !(!" + Parts.singles(0, 24)
                + "&([0..9]|[20..47]));machine 1;edge 0 0 a-b");
        x.same("ranges", 0);
        x.same("ranges", 1);
        x.same("letters", 0);
        x.same("letters", 1);
        for (int i = 0; i < 25; i++) {
            x.same("range", 0, i, true);
            x.same("range", 1, i, false);
        }
        for (int f = 0; f < 16; f++) {
            x.same("mixed", 0, 1, f);
            x.same("mixedRanges", 0, 1, f);
        }
        // each ( with as many cuts as can be, one in the other
        Both y = new Both();
        y.tell("set a " + Parts.singles(0, 24) + ";set b " + Parts.singles(1, 24) + ";set c "
                + Parts.singles(100, 24) + ";set d " + ("(a|b&!c|" + "(").repeat(6) + "[7]-a" + "))".repeat(6) + "&any;machine 1;edge 0 0 d;edge 0 0 !d&[0..200]");
        y.same("ranges", 3);
        y.same("letters", 3);
        for (int i = 0; i < 25; i++) {
            y.same("range", 3, i, true);
        }
    }

    private static void fullTape() {
        // as many tokens as there can be, and a text that fills the tape to its last byte
        for (String end : new String[] {"]", "]]", ",1", "#", ""}) {
            String begin = "machine 1;edge 0 0[";
            StringBuilder text = new StringBuilder(begin);
            while (text.length() + 3 + end.length() <= 900) {
                text.append("1,");
            }
            text.append('1').append(end);
            Both x = new Both();
            x.tell(text.toString());
        }
        Both y = new Both();
        y.tell(";".repeat(900));
        y.tell("machine 1" + ";end 0".repeat(148));
        y.tell("machine 1" + " ".repeat(891));
        y.tell(" ".repeat(891) + "machine 1");
        y.tell(" ".repeat(892) + "machine ");
    }

    private static long number(Both x, String call) {
        return Long.parseLong(x.machines.ask(call));
    }

    private static void make(Both x, String... calls) {
        for (String call : calls) {
            String[] words = call.split(" ");
            Object[] arguments = new Object[words.length - 1];
            for (int i = 0; i < arguments.length; i++) {
                arguments[i] = Integer.valueOf(words[i + 1]);
            }
            x.same(words[0], arguments);
        }
    }

    /** Everything that can be asked about every machine, of long rows a part. */
    private static void askAll(Both x) {
        for (int m = 0; m < x.oracle.machines.size(); m++) {
            Oracle.Machine y = x.oracle.machines.get(m);
            for (String name : new String[] {"ends", "useless", "dead", "rounds", "longest", "twin"}) {
                x.same(name, m);
            }
            for (int what = 0; what < 7; what++) {
                x.same("size", m, what);
            }
            for (int i = 0; i <= y.edges.size(); i++) {
                for (int what = 0; what < 4; what++) {
                    x.same("edge", m, i, what);
                }
                for (int j : new int[] {0, 1, RANDOM.nextInt(64)}) {
                    x.same("edgeRange", m, i, j, true);
                    x.same("edgeRange", m, i, j, false);
                }
            }
            for (int i = 0; i <= y.frees.size(); i++) {
                x.same("free", m, i, true);
                x.same("free", m, i, false);
            }
            for (int i = 0; i <= y.blocks.size(); i++) {
                x.same("block", m, i);
            }
            for (int i = 0; i <= y.sheaves.size(); i++) {
                x.same("sheaf", m, i);
            }
            askStates(x, m, y);
            askClasses(x, m, y);
            askWords(x, m, y);
        }
    }

    private static void askStates(Both x, int m, Oracle.Machine y) {
        for (int q = 0; q <= y.states; q++) {
            x.same("terms", m, q);
            for (int i : new int[] {0, 1, 2, RANDOM.nextInt(100)}) {
                for (int what = 0; what < 3; what++) {
                    x.same("term", m, q, i, what);
                }
            }
        }
    }

    private static void askClasses(Both x, int m, Oracle.Machine y) {
        for (int c = 0; c <= y.classes(); c++) {
            x.same("takes", m, c);
            x.same("first", m, c);
            for (int i = 0; c < y.classes() && i <= y.sheafWords.get(y.heads.get(c)).size(); i++) {
                x.same("firstLetter", m, c, i);
            }
            for (int start : y.blocks) {
                x.same("go", m, c, start);
            }
            for (int d = 0; d <= y.classes(); d += 1 + RANDOM.nextInt(4)) {
                x.same("parting", m, c, d);
                x.same("partingLetter", m, c, d, 0);
                x.same("partingLetter", m, c, d, 1 + RANDOM.nextInt(4));
            }
        }
    }

    private static void askWords(Both x, int m, Oracle.Machine y) {
        for (int n = 0; n < 4; n++) {
            x.same("count", m, n);
            for (int turn = 0; turn < 4; turn++) {
                int[] letters = new int[4];
                for (int i = 0; i < 4; i++) {
                    int b = RANDOM.nextInt(y.blocks.size());
                    letters[i] = y.blocks.get(b) + RANDOM.nextInt(y.blockLength(b));
                }
                x.same("word", n, letters[0], letters[1], letters[2], letters[3]);
                for (String name : new String[] {"taken", "leads", "classOf", "place"}) {
                    x.same(name, m);
                }
                long all = n == 0 ? 0 : y.count(0, n);
                long k = all == 0 ? 0 : Math.floorMod(RANDOM.nextLong(), all);
                x.same("at", m, n, k, RANDOM.nextInt(4));
                x.same("at", m, n, all - 1, n - 1);
                x.same("at", m, n, all, 0);
            }
        }
    }
}
