/** Promises 44 to 53, refused by 3: at most 10 machines, 40 states, 160 edges, 64 free steps, 128 blocks, 40 sheaves. */
public final class RoomForMadeTest {
    private static final String[] ALL = {"sure 0", "least 0", "other 0", "join 0 1 8", "behind 0 1", "again 0", "backwards 0",
        "only 0 0", "moved 0 1", "past 0 1"};

    public static void main(String[] args) {
        machines();
        states();
        pairs();
        edges();
        edgesOfStates();
        frees();
        blocksBehind();
        blocksOfPairs();
        blocksOfBoth();
        blocksOnly();
        blocksMoved();
        sheavesBehind();
        sheavesWithoutLetters();
        sheavesOfRings();
        sheavesBackwards();
        Bench.end();
    }

    /** No more than 10 with it (told ones, too). */
    private static void machines() {
        String text = "set s [1..9];machine 2;edge 0 1 [1..5];end 1;machine 1;edge 0 0 [7];end 0";
        for (int told = 2; told <= 4; told++) {
            Bench x = Bench.of(text + ";machine 1".repeat(told - 2));
            for (int m = told; m < 10; m++) {
                x.yes("least 0", m);
            }
            x.plain("total 1", told);
            x.plain("total 2", 10);
            for (String call : ALL) {
                x.no(call, 3);
                // one less, and each of them finds room
                x.yes("drop", 9);
                x.yes(call, 9);
            }
            x.plain("total 2", 10);
        }
        // there is none such, or a number: ahead of the room
        Bench y = Bench.of(text);
        for (int m = 2; m < 10; m++) {
            y.yes("again 1", m);
        }
        for (String call : ALL) {
            y.no(call.replaceFirst(" 0", " 10"), 1);
            y.no(call.replaceFirst(" 0", " -1"), 1);
        }
        y.no("join 0 10 8", 1);
        y.no("behind 0 10", 1);
        y.no("only 0 1", 1);
        y.no("join 0 1 16", 2);
        y.no("past 0 65536", 2);
        y.no("moved 0 65536", 2);
    }

    /** 40 states are made, 41 are not. */
    private static void states() {
        String end = ";end 11;edge 0 11 any;machine 3;end 2;free 0 2;machine 4;end 3;free 0 3;machine 1;end 0";
        Bench x = Bench.of("machine 12" + end);
        x.yes("behind 0 0", 4);
        x.yes("behind 4 0", 5);
        x.yes("behind 5 2", 6);
        x.yes("size 6 0", 40);
        for (String call : new String[] {"again 6", "backwards 6", "past 6 0", "past 6 65535", "behind 6 3", "behind 3 6"}) {
            x.no(call, 3);
        }
        x.no("behind 5 4", 3);
        x.plain("total 2", 7);
        x.yes("sure 6", 7);
        x.yes("moved 6 5", 8);
        x.yes("size 8 0", 40);
        // 39 and one more
        Bench y = Bench.of("machine 12" + end);
        y.yes("behind 0 0", 4);
        y.yes("behind 4 0", 5);
        y.yes("behind 5 1", 6);
        y.yes("size 6 0", 39);
        for (String call : new String[] {"again 6", "backwards 6", "past 6 0", "behind 6 3", "behind 3 6"}) {
            y.yes(call, 7);
            y.yes("size 7 0", 40);
            y.yes("drop", 7);
        }
        y.no("behind 6 1", 3);
    }

    /** 40 pairs of classes are made, 41 and 42 are not. */
    private static void pairs() {
        // the second goes round from its second state on
        String late = "machine 9;end 8" + Parts.steps(8) + Parts.edge(8, 1, "any");
        Bench x = Bench.of(Parts.ring(5, 0) + ";" + Parts.ring(8, 0) + ";" + late);
        for (int f = 0; f < 16; f++) {
            x.yes("join 0 1 " + f, 3);
            x.yes("size 3 0", 40);
            x.yes("size 3 4", 40);
            x.yes("drop", 3);
            x.no("join 0 2 " + f, 3);
            x.no("join 2 0 " + f, 3);
        }
        Bench y = Bench.of(Parts.ring(6, 0) + ";" + Parts.ring(7, 0));
        y.no("join 0 1 8", 3);
        y.no("join 1 0 0", 3);
    }

    /** 160 edges are made, 161 are not. */
    private static void edges() {
        Bench x = Bench.of("machine 1" + ";edge 0 0 [5]".repeat(20) + ";end 0;machine 1;edge 0 0 [5];end 0");
        x.yes("behind 0 0", 2);
        x.yes("behind 2 2", 3);
        x.yes("behind 3 3", 4);
        x.yes("size 4 1", 160);
        x.no("behind 4 1", 3);
        x.no("behind 1 4", 3);
        x.no("behind 4 0", 3);
        x.no("behind 4 4", 3);
        for (String call : new String[] {"again 4", "backwards 4", "past 4 5", "moved 4 1"}) {
            x.yes(call, 5);
            x.yes("size 5 1", 160);
            x.yes("drop", 5);
        }
        // edges without letters are edges
        Bench y = Bench.of("machine 1" + ";edge 0 0 [5]-any".repeat(20) + ";end 0;machine 1;edge 0 0 [5]-any");
        y.yes("behind 0 0", 2);
        y.yes("behind 2 2", 3);
        y.yes("behind 3 3", 4);
        y.yes("size 4 1", 160);
        y.no("behind 4 1", 3);
        y.yes("moved 4 1", 5);
        y.yes("size 5 1", 0);
    }

    /**
     * Machines whose states are told by words. Five of machine 0 one behind the other and machine 1: 30 sheaves of which
     * no two are alike, and that of no states; 129 edges or 130, from each of the 30 one to that, and its own.
     */
    private static void edgesOfStates() {
        for (int more = 0; more <= 1; more++) {
            Bench x = Bench.of(turning(6, 24) + ";" + turning(5, 9 + more) + ";machine 1;edge 0 0 any;end 0");
            x.yes("behind 0 0", 3);
            x.yes("behind 3 3", 4);
            x.yes("behind 4 0", 5);
            x.yes("behind 5 1", 6);
            x.yes("size 6 1", 129 + more);
            x.yes("size 6 4", 31);
            x.yes("size 6 6", 31);
            for (String call : new String[] {"sure 6", "least 6", "other 6", "join 6 2 8", "join 2 6 14"}) {
                if (more == 0) {
                    x.yes(call, 7);
                    x.yes("size 7 0", 31);
                    x.yes("size 7 1", 160);
                    x.yes("drop", 7);
                } else {
                    x.no(call, 3);
                }
            }
        }
    }

    /** A machine of n states, all but the last with edges of one letter each, to all but the first. */
    private static String turning(int n, int edges) {
        StringBuilder text = new StringBuilder("machine ").append(n).append(";end ").append(n - 1);
        for (int i = 0; i < edges; i++) {
            int from = i % (n - 1);
            int letter = i / (n - 1);
            text.append(Parts.edge(from, 1 + (letter + from) % (n - 1), "[" + letter + "]"));
        }
        return text.toString();
    }

    /** 64 free steps are made, 65 are not. */
    private static void frees() {
        // the letter 5 leads to one state of machine 1, 6 to two, others to none
        Bench x = Bench.of("machine 2" + ";free 0 1".repeat(8) + ";end 1;"
                + "machine 3;edge 0 1 [5];edge 0 1 [6];edge 0 2 [6];end 0;machine 1");
        x.yes("behind 0 0", 3);
        x.yes("behind 3 3", 4);
        x.yes("behind 4 3", 5);
        x.yes("behind 5 0", 6);
        x.yes("size 6 2", 62);
        x.yes("behind 6 1", 7);
        x.yes("size 7 2", 63);
        x.yes("behind 7 1", 8);
        x.yes("size 8 2", 64);
        for (String call : new String[] {"again 6", "backwards 7", "past 7 5", "behind 7 1", "behind 7 2", "past 8 7",
            "past 6 5", "sure 8"}) {
            x.yes(call, 9);
            if (!call.equals("past 6 5") && !call.equals("sure 8")) {
                x.yes("size 9 2", 64);
            }
            x.yes("drop", 9);
        }
        for (String call : new String[] {"again 7", "again 8", "backwards 8", "past 7 6", "past 8 5", "behind 8 1",
            "behind 8 2", "behind 8 0"}) {
            x.no(call, 3);
        }
    }

    /** 128 blocks are made, 129 are not: one behind the other. */
    private static void blocksBehind() {
        Bench x = Bench.of("set s [128];machine 1;edge 0 0 " + Parts.singles(1, 21) + ";edge 0 0 " + Parts.singles(43, 21)
                + ";machine 1;edge 0 0 " + Parts.singles(85, 21) + ";end 0;machine 1;edge 0 0 any");
        x.yes("size 0 5", 85);
        x.yes("behind 0 1", 3);
        x.yes("size 3 5", 127);
        x.yes("only 2 0", 4);
        x.yes("size 4 5", 3);
        x.no("behind 3 4", 3);
        x.yes("moved 4 65407", 5);
        x.yes("block 5 1", 65535);
        x.yes("behind 3 5", 6);
        x.yes("size 6 5", 128);
        x.no("behind 6 4", 3);
        for (String call : new String[] {"again 6", "backwards 6", "past 6 1", "sure 6"}) {
            x.yes(call, 7);
            x.yes("drop", 7);
        }
    }

    /** Blocks of two that are joined: 65 and 64 have 128 together, 65 and 65 have 129, whatever f. */
    private static void blocksOfPairs() {
        String low = "machine 2" + Parts.edge(0, 1, Parts.singles(1, 16)) + Parts.edge(0, 1, Parts.singles(33, 16));
        String high = ";end 1;machine 2" + Parts.edge(0, 1, Parts.singles(101, 16));
        Bench x = Bench.of(low + high + Parts.edge(0, 1, Parts.singles(133, 16)) + high
                + Parts.edge(0, 1, Parts.singles(133, 15)) + ";edge 0 1 [65535];end 1");
        x.yes("size 0 5", 65);
        x.yes("size 1 5", 65);
        x.yes("size 2 5", 64);
        for (int f = 0; f < 16; f++) {
            x.no("join 0 1 " + f, 3);
            x.yes("join 0 2 " + f, 3);
            x.yes("size 3 5", 128);
            x.yes("drop", 3);
        }
        x.no("behind 0 1", 3);
        x.yes("behind 0 2", 3);
        x.yes("size 3 5", 128);
    }

    /** Two of 128 blocks each, that have 255 together. */
    private static void blocksOfBoth() {
        StringBuilder text = new StringBuilder();
        for (int m = 0; m < 2; m++) {
            text.append(m == 0 ? "" : ";").append("machine 2;end 1");
            for (int i = 0; i < 3; i++) {
                text.append(Parts.edge(0, 1, Parts.singles(300 * m + 1 + 42 * i, 21)));
            }
            text.append(Parts.edge(0, 1, m == 0 ? "[65535]" : "[65533..65535]"));
        }
        Bench x = Bench.of(text.toString());
        x.yes("size 0 5", 128);
        x.yes("size 1 5", 128);
        x.no("behind 0 1", 3);
        x.no("join 0 1 14", 3);
        x.no("join 1 0 0", 3);
        x.word("found 0 1 8", "foundLetter 0 1 8", 65535);
        x.word("found 0 1 2", "foundLetter 0 1 2", 1);
        x.word("found 0 1 4", "foundLetter 0 1 4", 301);
        x.yes("join 0 0 6", 2);
        x.yes("behind 1 1", 3);
        x.yes("size 3 5", 128);
        // without ENDS nothing parts the letters of what is joined: one class of each, one block
        Bench y = Bench.of(text.toString().replace(";end 1", ""));
        y.yes("size 1 5", 128);
        y.no("behind 0 1", 3);
        for (int f = 0; f < 16; f++) {
            y.yes("join 0 1 " + f, 2);
            y.edges(2, "0 0 0-65535");
            y.yes("size 2 5", 1);
            y.yes("ends 2", f & 1);
            y.yes("drop", 2);
        }
    }

    /** Blocks that a set's ranges cut: 85, 1 where it ends, 2 for each letter behind it, 1 for the last letter. */
    private static void blocksOnly() {
        String behind = Parts.singles(300, 21);
        Bench x = Bench.of("set s [0..200]|" + behind + ";set t s|[65535];machine 1;edge 0 0 any;edge 0 0 " + Parts.singles(1, 21)
                + ";edge 0 0 " + Parts.singles(43, 21));
        x.yes("size 0 5", 85);
        x.yes("only 0 0", 1);
        x.yes("size 1 5", 128);
        x.no("only 0 1", 3);
        x.yes("only 1 1", 2);
        x.yes("size 2 5", 128);
    }

    /** Letters that nothing comes to are one block more. */
    private static void blocksMoved() {
        String most = "machine 1;edge 0 0 any" + Parts.edge(0, 0, Parts.singles(1, 21)) + Parts.edge(0, 0, Parts.singles(43, 21));
        Bench x = Bench.of(most + Parts.edge(0, 0, Parts.singles(85, 21)));
        x.yes("size 0 5", 127);
        x.yes("moved 0 1", 1);
        x.yes("size 1 5", 128);
        x.yes("moved 1 1", 2);
        x.yes("size 2 5", 128);
        x.yes("moved 1 -1", 3);
        x.yes("size 3 5", 128);
        Bench y = Bench.of(most + Parts.edge(0, 0, Parts.singles(85, 21)) + ";edge 0 0 [65000..65535]");
        y.yes("size 0 5", 128);
        y.no("moved 0 1", 3);
        y.no("moved 0 535", 3);
        y.yes("moved 0 536", 1);
        y.yes("size 1 5", 128);
        y.yes("moved 0 0", 2);
        y.yes("moved 0 -1", 3);
        y.yes("size 3 5", 128);
        Bench z = Bench.of("machine 1;edge 0 0 any;edge 0 0 [0..3]" + Parts.edge(0, 0, Parts.singles(10, 21))
                + Parts.edge(0, 0, Parts.singles(52, 21)) + Parts.edge(0, 0, Parts.singles(94, 21)));
        z.yes("size 0 5", 128);
        z.no("moved 0 -1", 3);
        z.no("moved 0 -3", 3);
        z.yes("moved 0 -4", 1);
        z.yes("size 1 5", 128);
    }

    /** 40 sheaves are made, 41 are not: as many as the first has letters, one of both, 32 of the second. */
    private static void sheavesBehind() {
        Bench x = Bench.of(Parts.chain(7) + ";" + Parts.chain(8) + ";machine 6;edge 0 0 any;edge 0 1 [1];edge 1 2 any;"
                + "edge 2 3 any;edge 3 4 any;edge 4 5 any;end 5");
        x.yes("size 2 4", 32);
        x.yes("behind 0 2", 3);
        x.yes("size 3 4", 40);
        x.no("behind 1 2", 3);
        x.plain("total 2", 4);
    }

    /** Where every letter led on, a letter that is taken away leads to the sheaf of no states. */
    private static void sheavesWithoutLetters() {
        // rings of 40 and of 39: the latter's first goes round from its fifth state on
        String late = "machine 11;end 10" + Parts.steps(10) + Parts.edge(10, 4, "any");
        Bench x = Bench.of("set s ![7];set all any;" + Parts.ring(5, 0) + ";" + Parts.ring(8, 0) + ";" + late);
        x.yes("join 0 1 8", 3);
        x.yes("size 3 4", 40);
        x.no("only 3 0", 3);
        x.no("moved 3 1", 3);
        x.no("moved 3 -1", 3);
        x.yes("moved 3 0", 4);
        x.yes("only 3 1", 5);
        x.yes("join 0 2 8", 6);
        x.yes("size 6 4", 39);
        x.yes("only 6 0", 7);
        x.yes("size 7 4", 40);
        x.yes("moved 6 1", 8);
        x.yes("size 8 4", 40);
        x.yes("moved 6 -1", 9);
        x.yes("size 9 4", 40);
    }

    /**
     * A state ahead of a ring makes a sheaf more, that of no states is another: with a ring of 38 there are 40, with one of
     * 39 there are 41. Where the ring's END is its first state, again() makes no more sheaves.
     */
    private static void sheavesOfRings() {
        for (int more = 0; more <= 1; more++) {
            // 2 times 19, 3 times 13
            Bench x = Bench.of("set s ![7];" + Parts.chain(11) + ";" + Parts.chain(more == 0 ? 8 : 2) + ";"
                    + Parts.ring(2 + more, 0));
            x.yes("behind 0 1", 3);
            x.yes("again 3", 4);
            x.yes("join 2 4 8", 5);
            x.yes("only 5 0", 6);
            x.yes("size 6 0", 38 + more);
            x.yes("size 6 4", 39 + more);
            x.yes("join 2 4 0", 7);
            x.yes("only 7 0", 8);
            x.yes("again 6", 9);
            x.yes("size 9 0", 39 + more);
            x.yes("size 9 4", 39 + more);
            x.yes("drop", 9);
            for (String call : new String[] {"again 8", "backwards 6", "past 6 5", "past 8 65535"}) {
                if (more == 0) {
                    x.yes(call, 9);
                    x.yes("size 9 0", 39);
                    x.yes("size 9 4", 40);
                    x.yes("drop", 9);
                } else {
                    x.no(call, 3);
                }
            }
            // the letter that was taken away leads to the one of no states
            x.yes("past 6 7", 9);
            x.yes("size 9 4", 2);
        }
    }

    /** Words whose fifth letter is 1, whose sixth is: backwards 32 sheaves and 64, and the first. */
    private static void sheavesBackwards() {
        Bench x = Bench.of("machine 6" + Parts.steps(4) + ";edge 4 5 [1];edge 5 5 any;end 5;"
                + "machine 7" + Parts.steps(5) + ";edge 5 6 [1];edge 6 6 any;end 6");
        x.yes("backwards 0", 2);
        x.yes("size 2 4", 33);
        x.no("backwards 1", 3);
        x.yes("backwards 2", 3);
        x.plain("twin 3", 0);
    }
}
