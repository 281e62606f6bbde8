/** Promises 44 to 54: what is made out of machines, when there is no room for it, and drop. */
public final class MadeTest {
    /** Machine 0: 1..5 and then 3..7, with a free step; machine 1: 8 or nothing; an edge without letters in it. */
    private static final String TEXT = "set s [2..3,9];set none [1]-any;machine 3;edge 0 1 [1..5];edge 1 2 [3..7];free 1 0;"
            + "end 2;machine 2;edge 0 1 [8];edge 1 1 [8]-[8];end 0;end 1";

    public static void main(String[] args) {
        sure();
        least();
        join();
        behind();
        again();
        backwards();
        only();
        moved();
        past();
        drop();
        noRoom();
        noRoomForParts();
        noRoomForWays();
        wrong();
        Bench.end();
    }

    /** Sheaves of machine 0: none {0}; 0 {}; 1 {0,1}; 1 3 {0,1,2}; 1 6 {2}. */
    private static void sure() {
        Bench x = Bench.of(TEXT);
        x.yes("sure 0", 2);
        x.plain("total 1", 2);
        x.plain("total 2", 3);
        x.yes("size 2 0", 5);
        x.frees(2);
        x.yes("ends 2", 24);
        x.edges(2, "0 1 0,6-65535", "0 2 1-5", "1 1 0-65535", "2 1 0,8-65535", "2 2 1-2", "2 3 3-5", "2 4 6-7",
                "3 1 0,8-65535", "3 2 1-2", "3 3 3-5", "3 4 6-7", "4 1 0-65535");
        x.yes("same 0 2", 1);
        x.yes("size 2 4", 5);
        x.yes("sheaf 2 3", 8);
        x.yes("size 2 5", 5);
        // like sheaves stay apart, blocks that nothing parts any more don't
        Bench y = Bench.of("machine 3;edge 0 1 [1];edge 0 2 [2];end 1;end 2;machine 1;edge 0 0 [5];edge 0 0 any;end 0");
        y.yes("sure 0", 2);
        y.edges(2, "0 1 0,3-65535", "0 2 1", "0 3 2", "1 1 0-65535", "2 1 0-65535", "3 1 0-65535");
        y.yes("size 1 5", 3);
        y.yes("sure 1", 3);
        y.edges(3, "0 0 0-65535");
        y.yes("size 3 5", 1);
    }

    private static void least() {
        Bench y = Bench.of("machine 3;edge 0 1 [1];edge 0 2 [2];end 1;end 2");
        y.yes("least 0", 1);
        y.yes("ends 1", 4);
        y.edges(1, "0 1 0,3-65535", "0 2 1-2", "1 1 0-65535", "2 1 0-65535");
        y.frees(1);
        y.yes("size 1 5", 3);
        y.yes("other 0", 2);
        y.yes("ends 2", 3);
        y.edges(2, "0 1 0,3-65535", "0 2 1-2", "1 1 0-65535", "2 1 0-65535");
        y.yes("same 1 2", 0);
        y.yes("found 1 2 9", -2);
        y.yes("found 1 2 15", 0);
        y.yes("other 2", 3);
        y.yes("same 3 0", 1);
        Bench x = Bench.of("machine 1;machine 2;edge 0 1 any;edge 1 0 any;end 0;end 1");
        x.yes("least 1", 2);
        x.edges(2, "0 0 0-65535");
        x.yes("ends 2", 1);
        x.yes("other 0", 3);
        x.plain("twin 3", 1);
        x.yes("least 0", 4);
        x.yes("ends 4", 0);
        x.yes("size 4 0", 1);
    }

    /** a: letter 1 anywhere; b: an even number of letters. */
    private static void join() {
        Bench x = Bench.of("machine 2;edge 0 0 ![1];edge 0 1 [1];edge 1 1 any;end 1;machine 2;edge 0 1 any;edge 1 0 any;end 0");
        long[] due = new long[16];
        for (int f = 0; f < 16; f++) {
            // pairs: none (no, even); 0 (no, odd); 1 (yes, odd); 0 1 (yes, even)
            due[f] = (f & 4) / 4 | (f & 1) * 2 | (f & 2) * 2 | (f & 8);
            x.yes("join 0 1 " + f, 2);
            x.yes("ends 2", due[f]);
            x.edges(2, "0 1 0,2-65535", "0 2 1", "1 0 0,2-65535", "1 3 1", "2 3 0-65535", "3 2 0-65535");
            x.frees(2);
            x.yes("size 2 0", 4);
            x.yes("drop", 2);
        }
        x.yes("join 0 0 8", 2);
        x.yes("same 0 2", 1);
        x.yes("size 2 0", 2);
        x.yes("join 1 0 6", 3);
        x.yes("join 0 1 6", 4);
        x.yes("same 3 4", 1);
        x.no("join 0 1 16", 2);
        x.no("join 0 1 -1", 2);
        x.no("join 5 1 16", 1);
        x.no("join 0 -1 16", 1);
    }

    private static void behind() {
        Bench x = Bench.of(TEXT);
        x.yes("behind 0 1", 2);
        x.yes("size 2 0", 5);
        x.edges(2, "0 1 1-5", "1 2 3-7", "3 4 8", "4 4");
        x.frees(2, "1 0", "2 3");
        x.yes("ends 2", 24);
        x.yes("behind 1 0", 3);
        x.edges(3, "0 1 8", "1 1", "2 3 1-5", "3 4 3-7");
        x.frees(3, "3 2", "0 2", "1 2");
        x.yes("ends 3", 16);
        x.yes("word 3 8 1 3 0", 3);
        x.yes("taken 3", 1);
        x.yes("taken 2", 0);
        x.yes("leads 3", 16 + 8 + 4);
        x.yes("behind 1 1", 4);
        x.yes("ends 4", 12);
        x.yes("longest 4", 2);
    }

    private static void again() {
        Bench x = Bench.of(TEXT);
        x.yes("again 0", 2);
        x.yes("size 2 0", 4);
        x.edges(2, "1 2 1-5", "2 3 3-7");
        x.frees(2, "0 1", "3 0", "2 1");
        x.yes("ends 2", 1);
        x.yes("longest 2", -3);
        x.yes("again 1", 3);
        x.edges(3, "1 2 8", "2 2");
        x.frees(3, "0 1", "1 0", "2 0");
        x.yes("ends 3", 1);
        x.yes("count 3 3", 1);
    }

    private static void backwards() {
        Bench x = Bench.of(TEXT);
        x.yes("backwards 0", 2);
        x.yes("size 2 0", 4);
        x.edges(2, "2 1 1-5", "3 2 3-7");
        x.frees(2, "0 3", "1 2");
        x.yes("ends 2", 2);
        x.yes("word 2 7 1 0 0", 2);
        x.yes("taken 2", 1);
        x.yes("taken 0", 0);
        x.yes("backwards 1", 3);
        x.edges(3, "2 1 8", "2 2");
        x.frees(3, "0 1", "0 2");
        x.yes("ends 3", 2);
        x.yes("backwards 2", 4);
        x.yes("same 4 0", 1);
        x.yes("ends 4", 2);
        x.frees(4, "0 2", "4 1", "3 2");
    }

    private static void only() {
        Bench x = Bench.of(TEXT);
        x.yes("only 0 0", 2);
        x.yes("size 2 0", 3);
        x.edges(2, "0 1 2-3", "1 2 3");
        x.frees(2, "1 0");
        x.yes("ends 2", 4);
        x.yes("size 2 5", 4);
        x.yes("only 1 0", 3);
        x.edges(3);
        x.yes("ends 3", 3);
        x.yes("size 3 5", 1);
        x.yes("only 0 1", 4);
        x.edges(4);
        x.frees(4, "1 0");
        x.no("only 0 2", 1);
        x.no("only 0 -1", 1);
        x.no("only 5 0", 1);
        x.no("only -1 -1", 1);
        // what was made has sets; sets told by lines alone are meant
        Bench y = Bench.of("set all any;set gap [0..65535]-[100];machine 1;edge 0 0 any;edge 0 0 [7]-[7];end 0");
        y.yes("only 0 0", 1);
        y.edges(1, "0 0 0-65535");
        y.yes("only 0 1", 2);
        y.edges(2, "0 0 0-99,101-65535");
    }

    private static void moved() {
        Bench x = Bench.of("machine 2;edge 0 1 [0..9,65535];edge 1 1 any;edge 1 0 [5]-[5];free 1 0;end 1;edge 1 0 [40]");
        x.yes("moved 0 0", 1);
        x.edges(1, "0 1 0-9,65535", "1 1 0-65535", "1 0 40");
        x.yes("moved 0 3", 2);
        x.edges(2, "0 1 3-12", "1 1 3-65535", "1 0 43");
        x.frees(2, "1 0");
        x.yes("ends 2", 2);
        x.yes("size 2 0", 2);
        x.yes("moved 0 -3", 3);
        x.edges(3, "0 1 0-6,65532", "1 1 0-65532", "1 0 37");
        x.yes("block 3 4", 65532);
        x.yes("block 3 5", 65533);
        x.yes("moved 0 65535", 4);
        x.edges(4, "0 1 65535", "1 1 65535");
        x.yes("moved 0 -65535", 5);
        x.edges(5, "0 1 0", "1 1 0");
        x.yes("moved 0 -41", 6);
        x.edges(6, "0 1 65494", "1 1 0-65494");
        x.no("moved 0 65536", 2);
        x.no("moved 0 -65536", 2);
        x.no("moved 0 -2147483648", 2);
        x.no("moved 7 65536", 1);
        Bench y = Bench.of("machine 1;edge 0 0 [5]");
        y.yes("moved 0 -6", 1);
        y.edges(1);
    }

    private static void past() {
        Bench x = Bench.of(TEXT);
        x.yes("past 0 4", 2);
        x.yes("size 2 0", 4);
        x.edges(2, "1 2 1-5", "2 3 3-7");
        x.frees(2, "0 1", "0 2", "2 1");
        x.yes("ends 2", 8);
        x.yes("count 2 1", 5);
        x.yes("past 0 0", 3);
        x.frees(3, "2 1");
        x.yes("longest 3", -2);
        x.yes("past 1 8", 4);
        x.frees(4, "0 2");
        x.yes("ends 4", 6);
        x.edges(4, "1 2 8", "2 2");
        x.yes("longest 4", 0);
        x.no("past 0 -1", 2);
        x.no("past 0 65536", 2);
        x.no("past 5 65536", 1);
    }

    private static void drop() {
        Bench x = Bench.of(TEXT);
        x.no("drop", 1);
        x.yes("sure 0", 2);
        x.yes("least 0", 3);
        x.yes("drop", 3);
        x.no("size 3 0", 1);
        x.yes("size 2 0", 5);
        x.yes("other 1", 3);
        x.yes("drop", 3);
        x.yes("drop", 2);
        x.no("drop", 1);
        x.plain("total 2", 2);
        x.yes("size 1 0", 2);
    }

    /** No more than 10 machines, told ones too. */
    private static void noRoom() {
        Bench x = Bench.of(TEXT);
        for (int m = 2; m < 10; m++) {
            x.yes("least 0", m);
        }
        for (String call : new String[] {"sure 0", "least 0", "other 0", "join 0 1 8", "behind 0 1", "again 0",
            "backwards 0", "only 0 0", "moved 0 1", "past 0 1"}) {
            x.no(call, 3);
        }
        x.no("least 10", 1);
        x.no("join 0 1 16", 2);
        x.no("past 0 65536", 2);
        x.no("moved 0 65536", 2);
        x.plain("total 2", 10);
        x.yes("drop", 9);
        x.yes("sure 0", 9);
    }

    /** Too many states, edges, free steps, blocks, sheaves: none is made. */
    private static void noRoomForParts() {
        Bench x = Bench.of("machine 12;end 11;edge 0 11 any;machine 4;end 3;free 0 3");
        x.yes("behind 0 0", 2);
        x.yes("behind 2 0", 3);
        x.yes("behind 3 1", 4);
        x.yes("size 4 0", 40);
        x.yes("useless 4", (1L << 40) - 1 & ~(1L | 1L << 11 | 1L << 12 | 1L << 23 | 1L << 24 | 1L << 35 | 1L << 36
                | 1L << 39));
        x.no("again 4", 3);
        x.no("backwards 4", 3);
        x.no("past 4 0", 3);
        x.no("behind 3 2", 3);
        x.plain("total 2", 5);
        x.yes("past 3 0", 5);
        x.yes("size 5 0", 37);

        Bench edges = Bench.of("machine 1" + ";edge 0 0 [5]".repeat(20) + ";end 0");
        edges.yes("behind 0 0", 1);
        edges.yes("behind 1 1", 2);
        edges.yes("behind 2 2", 3);
        edges.yes("size 3 1", 160);
        edges.no("behind 3 0", 3);
        edges.yes("again 3", 4);

        Bench frees = Bench.of("machine 2" + ";free 0 1".repeat(7) + ";end 1");
        frees.yes("behind 0 0", 1);
        frees.yes("behind 1 1", 2);
        frees.yes("behind 2 2", 3);
        frees.yes("size 3 2", 63);
        frees.yes("backwards 3", 4);
        frees.yes("size 4 2", 64);
        frees.no("again 3", 3);
        frees.no("backwards 4", 3);

        Bench blocks = Bench.of("set s " + singles(128, 1) + ";machine 1;edge 0 0 " + singles(1, 21) + ";edge 0 0 "
                + singles(43, 21) + ";machine 1;edge 0 0 " + singles(85, 21) + ";end 0;machine 1;edge 0 0 any");
        blocks.yes("size 0 5", 85);
        blocks.yes("behind 0 1", 3);
        blocks.yes("size 3 5", 127);
        blocks.yes("only 2 0", 4);
        blocks.yes("size 4 5", 3);
        blocks.no("behind 3 4", 3);
        blocks.yes("moved 4 65407", 5);
        blocks.yes("block 5 1", 65535);
        blocks.yes("behind 3 5", 6);
        blocks.yes("size 6 5", 128);

        // words whose fifth letter is 1, whose sixth is: backwards 32 sheaves and 64, and the first
        Bench sheaves = Bench.of("machine 6" + anyChain(4) + ";edge 4 5 [1];edge 5 5 any;end 5;"
                + "machine 7" + anyChain(5) + ";edge 5 6 [1];edge 6 6 any;end 6");
        sheaves.yes("backwards 0", 2);
        sheaves.yes("size 2 4", 33);
        sheaves.no("backwards 1", 3);
        sheaves.yes("backwards 2", 3);
        sheaves.plain("twin 3", 0);
    }

    /** Edges with any letter from each state to the next. */
    private static String anyChain(int n) {
        StringBuilder text = new StringBuilder();
        for (int i = 0; i < n; i++) {
            text.append(";edge ").append(i).append(' ').append(i + 1).append(" any");
        }
        return text.toString();
    }

    private static void noRoomForWays() {
        // a letter of 0 .. 15 leads from all 16 sheaves to the same one: 256 edges; but there are 2 classes
        Bench x = Bench.of("machine 5;edge 0 0 any;edge 0 1 [1,3,5,7,9,11,13,15];edge 0 2 [2..3,6..7,10..11,14..15];"
                + "edge 0 3 [4..7,12..15];edge 0 4 [8..15];end 1");
        x.yes("size 0 4", 16);
        x.no("sure 0", 3);
        x.yes("least 0", 1);
        x.yes("size 1 0", 2);
        x.edges(1, "0 0 0,2,4,6,8,10,12,14,16-65535", "0 1 1,3,5,7,9,11,13,15",
                "1 0 0,2,4,6,8,10,12,14,16-65535", "1 1 1,3,5,7,9,11,13,15");

        // rings of 4, each turned by a digit of its own: 16 pairs, from each to each, and the dead one
        StringBuilder rings = new StringBuilder("set a [0,4,8,12];set b [1,5,9,13];set c [2,6,10,14];set d [3,7,11,15];"
                + "set e [0..3];set f [4..7];set g [8..11];set h [12..15]");
        for (int ring = 0; ring < 2; ring++) {
            rings.append(";machine 4;end 0");
            for (int i = 0; i < 16; i++) {
                rings.append(";edge ").append(i / 4).append(' ').append(i % 4).append(' ')
                        .append((char) ('a' + 4 * ring + (i % 4 - i / 4 + 4) % 4));
            }
        }
        Bench y = Bench.of(rings.toString());
        y.yes("size 0 6", 5);
        y.yes("size 1 6", 5);
        y.no("join 0 1 8", 3);
        y.plain("total 2", 2);
        y.yes("join 0 0 8", 2);
        y.yes("size 2 1", 21);

        // blocks: 65 and 65 ranges' bounds apart from one another
        Bench z = Bench.of("machine 2;edge 0 1 " + singles(1, 16) + ";edge 0 1 " + singles(33, 16) + ";end 1;"
                + "machine 2;edge 0 1 " + singles(101, 16) + ";edge 0 1 " + singles(133, 16) + ";end 1;"
                + "machine 2;edge 0 1 " + singles(133, 15) + ";edge 0 1 " + singles(101, 16) + ";end 1");
        z.yes("size 0 5", 65);
        z.yes("size 1 5", 65);
        z.no("join 0 1 14", 3);
        z.no("behind 0 1", 3);
        z.yes("join 0 2 14", 3);
        z.yes("size 3 5", 127);
        z.yes("edge 3 1 2", 32);
        z.yes("edge 3 2 2", 31);
        z.yes("behind 0 2", 4);
        // the pairs are the same, whatever f
        z.no("join 0 1 0", 3);
    }

    private static String singles(int least, int n) {
        StringBuilder text = new StringBuilder("[");
        for (int i = 0; i < n; i++) {
            text.append(i == 0 ? "" : ",").append(least + 2 * i);
        }
        return text.append(']').toString();
    }

    private static void wrong() {
        Bench x = Bench.of(TEXT);
        for (String name : new String[] {"sure", "least", "other", "again", "backwards"}) {
            x.no(name + " 2", 1);
            x.no(name + " -1", 1);
        }
        x.no("behind 2 0", 1);
        x.no("behind 0 2", 1);
        x.no("past -1 0", 1);
        x.no("moved -1 0", 1);
        x.plain("total 2", 2);
    }
}
