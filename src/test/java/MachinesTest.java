/** Promises 13 to 22: states, edges, free steps, ends, blocks, sheaves, useless states, minterms. */
public final class MachinesTest {
    /**
     * Machine 0 with a free step and an edge without letters; machine 1 of one state and nothing else; machine 2 with
     * useless states.
     */
    private static final String TEXT = "set a [1..5,9];machine 3;edge 0 1 a;edge 0 0 !a;edge 1 2 [3..7,65535];free 1 0;"
            + "end 2;edge 2 2 [1]&[2];machine 1;machine 6;edge 0 1 [5];edge 1 2 [5]-any;free 3 2;edge 0 4 any;"
            + "free 4 3;end 2;end 5;edge 5 2 any";
    private static final int MACHINES = 3;

    public static void main(String[] args) {
        sizes();
        noSuchSize();
        edges();
        noSuchEdge();
        noSuchEdgeRange();
        frees();
        noSuchFree();
        ends();
        noSuchEnds();
        blocks();
        noSuchBlock();
        sheaves();
        emptySheaf();
        noSuchSheaf();
        useless();
        noSuchUseless();
        terms();
        noSuchTerms();
        term();
        noSuchTerm();
        highBits();
        mostBlocks();
        withoutMachines();
        Bench.end();
    }

    /** 13: of a MACHINE how many 0 STATES, 1 EDGES, 2 FREE steps, 3 ENDS, 4 SHEAVES, 5 BLOCKS, 6 CLASSES. */
    private static void sizes() {
        Bench x = Bench.of(TEXT);
        int[][] due = {{3, 4, 1, 1, 4, 8, 4}, {1, 0, 0, 0, 2, 1, 1}, {6, 4, 2, 2, 4, 3, 3}};
        for (int m = 0; m < MACHINES; m++) {
            for (int what = 0; what < 7; what++) {
                x.yes("size " + m + " " + what, due[m][what]);
            }
        }
    }

    /** 13: NONE: 1 (what, too). */
    private static void noSuchSize() {
        Bench x = Bench.of(TEXT);
        x.none("size # 0", MACHINES, 1);
        x.none("size # 6", MACHINES, 1);
        for (int m = 0; m < MACHINES; m++) {
            x.none("size " + m + " #", 7, 1);
        }
        x.no("size 3 7", 1);
    }

    /** 14: of its i-th EDGE 0 from, 1 to, 2 RANGES, 3 LETTERS; 15: the bounds of its j-th RANGE. */
    private static void edges() {
        Bench x = Bench.of(TEXT);
        x.edges(0, "0 1 1-5,9", "0 0 0,6-8,10-65535", "1 2 3-7,65535", "2 2");
        x.edges(1);
        x.edges(2, "0 1 5", "1 2", "0 4 0-65535", "5 2 0-65535");
    }

    /** 14: NONE: 1 (i, what, too). */
    private static void noSuchEdge() {
        Bench x = Bench.of(TEXT);
        x.none("edge # 0 0", MACHINES, 1);
        int[] edges = {4, 0, 4};
        for (int m = 0; m < MACHINES; m++) {
            for (int what = 0; what < 4; what++) {
                x.none("edge " + m + " # " + what, edges[m], 1);
            }
        }
        x.none("edge 0 0 #", 4, 1);
        x.none("edge 0 3 #", 4, 1);
        x.no("edge 1 0 4", 1);
    }

    /** 15: NONE: 1 (i, j, too). */
    private static void noSuchEdgeRange() {
        Bench x = Bench.of(TEXT);
        x.none("edgeRange # 0 0 true", MACHINES, 1);
        x.none("edgeRange 0 # 0 true", 4, 1);
        x.none("edgeRange 1 # 0 false", 0, 1);
        int[] ranges = {2, 3, 2, 0};
        for (int i = 0; i < ranges.length; i++) {
            x.none("edgeRange 0 " + i + " # false", ranges[i], 1);
            x.none("edgeRange 0 " + i + " # true", ranges[i], 1);
        }
        x.none("edgeRange 2 2 # true", 1, 1);
        x.none("edgeRange 2 1 # false", 0, 1);
    }

    /** 16: from where its i-th FREE step is, or to where. */
    private static void frees() {
        Bench x = Bench.of(TEXT);
        x.frees(0, "1 0");
        x.frees(1);
        x.frees(2, "3 2", "4 3");
    }

    /** 16: NONE: 1 (i, too). */
    private static void noSuchFree() {
        Bench x = Bench.of(TEXT);
        x.none("free # 0 true", MACHINES, 1);
        x.none("free # 0 false", MACHINES, 1);
        int[] frees = {1, 0, 2};
        for (int m = 0; m < MACHINES; m++) {
            x.none("free " + m + " # true", frees[m], 1);
            x.none("free " + m + " # false", frees[m], 1);
        }
    }

    /** 17: its ENDS, as bits; 0 without ENDS. */
    private static void ends() {
        Bench x = Bench.of(TEXT);
        x.yes("ends 0", 4);
        x.yes("ends 1", 0);
        x.yes("ends 2", 36);
        Bench y = Bench.of("machine 12;end 11;machine 1;end 0;"
                + "machine 12;end 0;end 11;end 1;end 10;end 2;end 9;end 3;end 8;end 4;end 7;end 5;end 6");
        y.yes("ends 0", 2048);
        y.yes("ends 1", 1);
        y.yes("ends 2", 4095);
        y.yes("size 2 3", 12);
    }

    /** 17: -1: 1. */
    private static void noSuchEnds() {
        Bench.of(TEXT).none("ends #", MACHINES, 1);
    }

    /** 18: the least LETTER of its i-th BLOCK; BLOCKS: as long as can be, of which each EDGE's SET has all or none. */
    private static void blocks() {
        Bench x = Bench.of(TEXT);
        blocksOf(x, 0, 0, 1, 3, 6, 8, 9, 10, 65535);
        blocksOf(x, 1, 0);
        blocksOf(x, 2, 0, 5, 6);
        // all letters or none part nothing; the first and the last letter do; neighbours are apart if an edge parts them
        Bench y = Bench.of("machine 2;edge 0 1 any;edge 1 0 any-any;machine 1;edge 0 0 [0];edge 0 0 [65535];"
                + "machine 1;edge 0 0 [5];edge 0 0 [6];machine 1;edge 0 0 [5..6];edge 0 0 [6..7,9];edge 0 0 [5..7]");
        blocksOf(y, 0, 0);
        blocksOf(y, 1, 0, 1, 65535);
        blocksOf(y, 2, 0, 5, 6, 7);
        blocksOf(y, 3, 0, 5, 6, 7, 8, 9, 10);
    }

    private static void blocksOf(Bench x, int m, int... starts) {
        x.yes("size " + m + " 5", starts.length);
        for (int i = 0; i < starts.length; i++) {
            x.yes("block " + m + " " + i, starts[i]);
        }
        x.no("block " + m + " " + starts.length, 1);
    }

    /** 18: NONE: 1 (i, too). */
    private static void noSuchBlock() {
        Bench x = Bench.of(TEXT);
        x.none("block # 0", MACHINES, 1);
        x.none("block 0 #", 8, 1);
        x.none("block 1 #", 1, 1);
        x.none("block 2 #", 3, 1);
    }

    /** 19: the STATES of its i-th SHEAF, as bits; numbered by the first WORDS that lead to them. */
    private static void sheaves() {
        // none {0}; 1 {0,1}; 1 3 {0,1,2}; 1 6 {0,2}
        sheavesOf(Bench.of(TEXT), 0, 1, 3, 7, 5);
        // none {0}; 0 {}; 1 {1,2}; 2 {1}; 1 7 {1}
        sheavesOf(Bench.of("machine 3;edge 0 1 [2];edge 0 2 [1];free 2 1;edge 1 1 [7];end 1"), 0, 1, 0, 6, 2);
        // free steps ahead, between and behind, in a ring and to itself
        sheavesOf(Bench.of("machine 4;free 0 1;free 1 2;free 2 0;edge 2 3 [4];free 3 1;free 3 3"), 0, 7, 0, 15);
        // a free step to 0 from elsewhere leads nowhere ahead
        sheavesOf(Bench.of("machine 2;free 1 0"), 0, 1, 0);
    }

    private static void sheavesOf(Bench x, int m, long... bits) {
        x.yes("size " + m + " 4", bits.length);
        for (int i = 0; i < bits.length; i++) {
            x.yes("sheaf " + m + " " + i, bits[i]);
        }
        x.no("sheaf " + m + " " + bits.length, 1);
    }

    /** I: its SHEAF (maybe none): the one of no STATES is counted if a WORD leads to it, else not. */
    private static void emptySheaf() {
        Bench x = Bench.of("machine 1;machine 1;edge 0 0 any;machine 1;edge 0 0 any-[65535];machine 1;edge 0 0 any-any");
        sheavesOf(x, 0, 1, 0);
        sheavesOf(x, 1, 1);
        sheavesOf(x, 2, 1, 0);
        sheavesOf(x, 3, 1, 0);
    }

    /** 19: -1: 1 (i, too). */
    private static void noSuchSheaf() {
        Bench x = Bench.of(TEXT);
        x.none("sheaf # 0", MACHINES, 1);
        x.none("sheaf 0 #", 4, 1);
        x.none("sheaf 1 #", 2, 1);
        x.none("sheaf 2 #", 4, 1);
    }

    /** 20: STATES that are on no way from 0 to an END; EDGES whose SETS have LETTERS; an END 0 is on one. */
    private static void useless() {
        Bench x = Bench.of(TEXT);
        x.yes("useless 0", 0);
        // without an END all are
        x.yes("useless 1", 1);
        // 0 by any to 4, free to 3, free to 2; 1 leads nowhere, 5 can't be reached
        x.yes("useless 2", 34);
        Bench y = Bench.of("machine 2;end 0;machine 3;end 2;edge 0 1 any;edge 1 2 any-any;machine 3;end 1;free 0 1;"
                + "edge 1 2 any;machine 12;end 11;free 0 11");
        y.yes("useless 0", 2);
        y.yes("useless 1", 7);
        y.yes("useless 2", 4);
        y.yes("useless 3", 2046);
        // an END that can't be reached; one that is 0 alone; ways back to 0; a chain through all states and back
        Bench z = Bench.of("machine 12;end 11;machine 1;end 0;machine 2;edge 0 1 [5];free 1 0;end 0;machine 12;end 6;"
                + "edge 0 11 any;edge 11 1 any;edge 1 10 any;edge 10 2 any;edge 2 9 any;edge 9 3 any;edge 3 8 any;"
                + "edge 8 4 any;edge 4 7 any;edge 7 5 any;edge 5 6 [65535]");
        z.yes("useless 0", 4095);
        z.yes("useless 1", 0);
        z.yes("useless 2", 0);
        z.yes("useless 3", 0);
    }

    /** 20: -1: 1. */
    private static void noSuchUseless() {
        Bench.of(TEXT).none("useless #", MACHINES, 1);
    }

    /** 21: how many MINTERMS of a STATE there are (with those that none has, if there are such). */
    private static void terms() {
        Bench x = Bench.of("machine 2;edge 0 0 [1..9];edge 0 1 [5..20];edge 1 1 [3..7,65535];edge 0 0 any-[0..29];"
                + "machine 4;edge 0 0 any;edge 1 1 any-any;edge 2 2 [0];edge 2 3 ![0]");
        x.yes("terms 0 0", 5);
        x.yes("terms 0 1", 2);
        // all letters in one edge; an edge without letters; two edges that have all between them; no edge
        x.yes("terms 1 0", 1);
        x.yes("terms 1 1", 1);
        x.yes("terms 1 2", 2);
        x.yes("terms 1 3", 1);
        Bench y = Bench.of(TEXT);
        y.yes("terms 1 0", 1);
        // 24 edges with a letter each, and those that none has
        StringBuilder most = new StringBuilder("machine 1");
        for (int i = 0; i < 24; i++) {
            most.append(";edge 0 0 [").append(10 * i).append(']');
        }
        Bench z = Bench.of(most.toString());
        z.yes("terms 0 0", 25);
        z.yes("term 0 0 24 0", 230);
        z.yes("term 0 0 1 1", 65536 - 24);
        z.no("term 0 0 25 0", 1);
    }

    /** 21: NONE: 1 (q, too). */
    private static void noSuchTerms() {
        Bench x = Bench.of(TEXT);
        x.none("terms # 0", MACHINES, 1);
        x.none("terms 0 #", 3, 1);
        x.none("terms 1 #", 1, 1);
        x.none("terms 2 #", 6, 1);
    }

    /** 22: of its i-th MINTERM, by least LETTERS: 0 the least LETTER, 1 how many, 2 how many EDGES have them. */
    private static void term() {
        Bench x = Bench.of("machine 2;edge 0 0 [1..9];edge 0 1 [5..20];edge 1 1 [3..7,65535];edge 0 0 any-[0..29]");
        // 0 and 21..29 none; 1..4; 5..9; 10..20; 30..65535
        termsOf(x, 0, 0, new int[][] {{0, 10, 0}, {1, 4, 1}, {5, 5, 2}, {10, 11, 1}, {30, 65506, 1}});
        termsOf(x, 0, 1, new int[][] {{0, 65530, 0}, {3, 6, 1}});
        // the same letters by other edges are another minterm; edges that are alike are counted each
        Bench y = Bench.of("machine 1;edge 0 0 [1];edge 0 0 [2];edge 0 0 [1..2];edge 0 0 [1..2];machine 1;"
                + "machine 1;edge 0 0 any;edge 0 0 [5]-any;machine 1;edge 0 0 [7..65535]");
        termsOf(y, 0, 0, new int[][] {{0, 65534, 0}, {1, 1, 3}, {2, 1, 3}});
        termsOf(y, 1, 0, new int[][] {{0, 65536, 0}});
        termsOf(y, 2, 0, new int[][] {{0, 65536, 1}});
        termsOf(y, 3, 0, new int[][] {{0, 7, 0}, {7, 65529, 1}});
    }

    private static void termsOf(Bench x, int m, int q, int[][] due) {
        x.yes("terms " + m + " " + q, due.length);
        for (int i = 0; i < due.length; i++) {
            for (int what = 0; what < 3; what++) {
                x.yes("term " + m + " " + q + " " + i + " " + what, due[i][what]);
            }
        }
        x.no("term " + m + " " + q + " " + due.length + " 0", 1);
    }

    /** 22: NONE: 1 (q, i, what, too). */
    private static void noSuchTerm() {
        Bench x = Bench.of(TEXT);
        x.none("term # 0 0 0", MACHINES, 1);
        x.none("term 0 # 0 0", 3, 1);
        x.none("term 1 # 0 0", 1, 1);
        x.none("term 2 # 0 0", 6, 1);
        for (int what = 0; what < 3; what++) {
            x.none("term 0 0 # " + what, 2, 1);
            x.none("term 0 2 # " + what, 1, 1);
            x.none("term 1 0 # " + what, 1, 1);
        }
        x.none("term 0 0 0 #", 3, 1);
        x.none("term 1 0 0 #", 3, 1);
        x.no("term 0 0 2 3", 1);
    }

    /** IV: bits: of k, 2 to the k; of 40 states the last is 2 to the 39. */
    private static void highBits() {
        Bench x = Bench.of("machine 12;end 11;edge 0 11 any;machine 4;end 3;edge 0 3 [7]");
        x.yes("behind 0 0", 2);
        x.yes("behind 2 0", 3);
        x.yes("behind 3 1", 4);
        x.yes("size 4 0", 40);
        x.yes("ends 4", 1L << 39);
        // 0, 11 and 12, 23 and 24, 35 and 36, 39
        x.yes("useless 4", (1L << 40) - 1 & ~(1L | 3L << 11 | 3L << 23 | 3L << 35 | 1L << 39));
        sheavesOf(x, 4, 1, 3L << 11, 3L << 23, 3L << 35, 0, 1L << 39);
        x.yes("word 4 0 0 0 7", 4);
        x.yes("leads 4", 1L << 39);
        x.yes("taken 4", 1);
        x.yes("terms 4 39", 1);
        x.none("terms 4 #", 40, 1);
    }

    /** 128 blocks: the last one is the last letter, and no range of an edge comes round to the first. */
    private static void mostBlocks() {
        Bench x = Bench.of("machine 3" + Parts.edge(0, 0, Parts.singles(1, 21)) + Parts.edge(0, 0, Parts.singles(43, 21))
                + Parts.edge(0, 0, Parts.singles(85, 21)) + ";edge 0 1 [65535];edge 1 2 any;end 2");
        x.yes("size 0 5", 128);
        x.yes("block 0 126", 126);
        x.yes("block 0 127", 65535);
        x.none("block 0 #", 128, 1);
        x.yes("edge 0 2 2", 21);
        x.yes("edgeRange 0 2 20 true", 125);
        x.none("edgeRange 0 2 # false", 21, 1);
        for (int i = 3; i < 5; i++) {
            x.yes("edge 0 " + i + " 2", 1);
            x.yes("edge 0 " + i + " 3", i == 3 ? 1 : 65536);
            x.yes("edgeRange 0 " + i + " 0 false", i == 3 ? 65535 : 0);
            x.yes("edgeRange 0 " + i + " 0 true", 65535);
        }
        x.yes("useless 0", 0);
        termsOf(x, 0, 0, new int[][] {{0, 65472, 0}, {1, 21, 1}, {43, 21, 1}, {85, 21, 1}, {65535, 1, 1}});
        termsOf(x, 0, 1, new int[][] {{0, 65536, 1}});
        x.yes("word 2 65535 65535 0 0", 2);
        x.yes("leads 0", 4);
    }

    /** No MACHINES: 0 is none such. */
    private static void withoutMachines() {
        Bench x = new Bench();
        for (String call : new String[] {"size 0 0", "edge 0 0 0", "edgeRange 0 0 0 true", "free 0 0 true", "ends 0",
            "block 0 0", "sheaf 0 0", "useless 0", "terms 0 0", "term 0 0 0 0"}) {
            x.no(call, 1);
        }
    }
}
