/** Promises 13 to 22: states, edges, free steps, ends, blocks, sheaves, useless states, minterms. */
public final class MachinesTest {
    /** Machine 0 with a free step and an edge without letters, machine 1 of one state, machine 2 with useless states. */
    private static final String TEXT = "set a [1..5,9];machine 3;edge 0 1 a;edge 0 0 !a;edge 1 2 [3..7,65535];free 1 0;"
            + "end 2;edge 2 2 [1]&[2];machine 1;machine 6;edge 0 1 [5];edge 1 2 [5]-any;free 3 2;edge 0 4 any;"
            + "free 4 3;end 2;end 5;edge 5 2 any";

    public static void main(String[] args) {
        sizes();
        edges();
        bits();
        blocks();
        sheaves();
        useless();
        terms();
        wrong();
        Bench.end();
    }

    private static void sizes() {
        Bench x = Bench.of(TEXT);
        int[][] due = {{3, 4, 1, 1, 4, 8, 4}, {1, 0, 0, 0, 2, 1, 1}, {6, 4, 2, 2, 4, 3, 3}};
        for (int m = 0; m < 3; m++) {
            for (int what = 0; what < 7; what++) {
                x.yes("size " + m + " " + what, due[m][what]);
            }
        }
    }

    private static void edges() {
        Bench x = Bench.of(TEXT);
        x.edges(0, "0 1 1-5,9", "0 0 0,6-8,10-65535", "1 2 3-7,65535", "2 2");
        x.frees(0, "1 0");
        x.edges(1);
        x.frees(1);
        x.edges(2, "0 1 5", "1 2", "0 4 0-65535", "5 2 0-65535");
        x.frees(2, "3 2", "4 3");
    }

    private static void bits() {
        Bench x = Bench.of(TEXT);
        x.yes("ends 0", 4);
        x.yes("ends 1", 0);
        x.yes("ends 2", 36);
    }

    private static void blocks() {
        Bench x = Bench.of(TEXT);
        int[] starts = {0, 1, 3, 6, 8, 9, 10, 65535};
        for (int i = 0; i < starts.length; i++) {
            x.yes("block 0 " + i, starts[i]);
        }
        x.no("block 0 8", 1);
        x.yes("block 1 0", 0);
        x.no("block 1 1", 1);
        x.yes("block 2 0", 0);
        x.yes("block 2 1", 5);
        x.yes("block 2 2", 6);
    }

    private static void sheaves() {
        Bench w = Bench.of(TEXT);
        // none {0}; 1 {0,1}; 1 3 {0,1,2}; 1 6 {0,2}
        w.yes("sheaf 0 0", 1);
        w.yes("sheaf 0 1", 3);
        w.yes("sheaf 0 2", 7);
        w.yes("sheaf 0 3", 5);
        w.no("sheaf 0 4", 1);
        Bench x = Bench.of("machine 3;edge 0 1 [2];edge 0 2 [1];free 2 1;edge 1 1 [7];end 1");
        // none {0}; 0 {}; 1 {1,2}; 2 {1}; 1 7 {1}
        x.yes("size 0 4", 4);
        x.yes("sheaf 0 0", 1);
        x.yes("sheaf 0 1", 0);
        x.yes("sheaf 0 2", 6);
        x.yes("sheaf 0 3", 2);
        x.no("sheaf 0 4", 1);
        // free steps ahead, in a ring
        Bench y = Bench.of("machine 4;free 0 1;free 1 2;free 2 0;edge 2 3 [4];free 3 1");
        y.yes("sheaf 0 0", 7);
        y.yes("sheaf 0 1", 0);
        y.yes("sheaf 0 2", 15);
        y.yes("size 0 4", 3);
        Bench z = Bench.of("machine 1;edge 0 0 any");
        z.yes("size 0 4", 1);
    }

    private static void useless() {
        Bench x = Bench.of(TEXT);
        x.yes("useless 0", 0);
        x.yes("useless 1", 1);
        // 0 by any to 4, free to 3, free to 2; 1 leads nowhere, 5 can't be reached
        x.yes("useless 2", 34);
        Bench y = Bench.of("machine 2;end 0;machine 3;end 2;edge 0 1 any;edge 1 2 any-any;machine 3;end 1;free 0 1;"
                + "edge 1 2 any;machine 12;end 11;free 0 11");
        y.yes("useless 0", 2);
        y.yes("useless 1", 7);
        y.yes("useless 2", 4);
        y.yes("useless 3", 2046);
    }

    private static void terms() {
        Bench x = Bench.of("machine 2;edge 0 0 [1..9];edge 0 1 [5..20];edge 1 1 [3..7,65535];edge 0 0 any-[0..29]");
        // 0 and 21..29 none; 1..4; 5..9; 10..20; 30..65535
        int[][] due = {{0, 10, 0}, {1, 4, 1}, {5, 5, 2}, {10, 11, 1}, {30, 65506, 1}};
        x.yes("terms 0 0", 5);
        for (int i = 0; i < due.length; i++) {
            for (int what = 0; what < 3; what++) {
                x.yes("term 0 0 " + i + " " + what, due[i][what]);
            }
        }
        x.no("term 0 0 5 0", 1);
        x.yes("terms 0 1", 2);
        x.yes("term 0 1 0 1", 65530);
        x.yes("term 0 1 1 0", 3);
        x.yes("term 0 1 1 1", 6);
        x.yes("term 0 1 1 2", 1);
        // the same letters by other edges are another minterm; the same edges are counted each
        Bench y = Bench.of("machine 1;edge 0 0 [1];edge 0 0 [2];edge 0 0 [1..2];edge 0 0 [1..2];machine 1;"
                + "machine 1;edge 0 0 any;edge 0 0 [5]-any");
        y.yes("terms 0 0", 3);
        y.yes("term 0 0 1 2", 3);
        y.yes("term 0 0 2 2", 3);
        y.yes("term 0 0 2 0", 2);
        y.yes("terms 1 0", 1);
        y.yes("term 1 0 0 0", 0);
        y.yes("term 1 0 0 1", 65536);
        y.yes("term 1 0 0 2", 0);
        y.yes("terms 2 0", 1);
        y.yes("term 2 0 0 2", 1);
    }

    private static void wrong() {
        Bench x = Bench.of(TEXT);
        for (String call : new String[] {"size 3 0", "size -1 0", "size 0 7", "size 0 -1", "edge 3 0 0", "edge 0 4 0",
            "edge 0 -1 0", "edge 0 0 4", "edge 0 0 -1", "edge 1 0 0", "edgeRange 3 0 0 true", "edgeRange 0 4 0 true",
            "edgeRange 0 -1 0 true", "edgeRange 0 0 2 true", "edgeRange 0 0 -1 false", "edgeRange 0 3 0 false",
            "edgeRange 0 0 2147483647 false", "free 3 0 true", "free 0 1 true", "free 0 -1 false", "free 1 0 false",
            "ends 3", "ends -1", "block 3 0", "block 0 -1", "sheaf 3 0", "sheaf 0 4", "sheaf 0 -1", "useless 3",
            "useless -2147483648", "terms 3 0", "terms 0 3", "terms 0 -1", "term 3 0 0 0", "term 0 3 0 0",
            "term 0 -1 0 0", "term 0 0 -1 0", "term 0 0 2 0", "term 0 0 0 3", "term 0 0 0 -1"}) {
            x.no(call, 1);
        }
    }
}
