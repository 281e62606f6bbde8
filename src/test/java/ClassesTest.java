/** Promises 23 to 30: classes, their first words, the words that part them. */
public final class ClassesTest {
    /** Machine 0 takes words that end in 1 2; machine 1 two letters, the second 5; machine 2 all; machine 3 none. */
    private static final String TEXT = "machine 3;edge 0 0 any;edge 0 1 [1];edge 1 2 [2];end 2;"
            + "machine 3;edge 0 1 any;edge 1 2 [5];end 2;machine 1;edge 0 0 any;end 0;machine 2;edge 0 1 [7];edge 1 0 any";
    private static final int MACHINES = 4;
    /** How many classes each has. */
    private static final int[] CLASSES = {3, 4, 1, 1};

    public static void main(String[] args) {
        go();
        refusedGo();
        takes();
        noSuchTakes();
        dead();
        noSuchDead();
        first();
        noSuchFirst();
        firstLetter();
        noSuchFirstLetter();
        parting();
        noSuchParting();
        partingLetter();
        noSuchPartingLetter();
        rounds();
        noSuchRounds();
        likeWords();
        many();
        mostClasses();
        withoutMachines();
        Bench.end();
    }

    /**
     * 23: the CLASS to which a LETTER leads from a CLASS. Machine 0: 0 none of it; 1 ends in 1; 2 ends in 1 2. Machine 1:
     * 0; 1 one letter; 2 dead; 3 taken.
     */
    private static void go() {
        Bench x = Bench.of(TEXT);
        for (int m = 0; m < MACHINES; m++) {
            x.yes("size " + m + " 6", CLASSES[m]);
        }
        x.yes("go 0 0 0", 0);
        x.yes("go 0 0 1", 1);
        x.yes("go 0 0 2", 0);
        x.yes("go 0 1 0", 0);
        x.yes("go 0 1 1", 1);
        x.yes("go 0 1 2", 2);
        x.yes("go 0 1 3", 0);
        x.yes("go 0 2 1", 1);
        x.yes("go 0 2 2", 0);
        x.yes("go 0 2 65535", 0);
        x.yes("go 1 0 0", 1);
        x.yes("go 1 0 65535", 1);
        x.yes("go 1 1 5", 3);
        x.yes("go 1 1 4", 2);
        x.yes("go 1 1 6", 2);
        x.yes("go 1 3 5", 2);
        x.yes("go 1 2 5", 2);
        x.yes("go 2 0 0", 0);
        x.yes("go 2 0 65535", 0);
        x.yes("go 3 0 7", 0);
        x.yes("go 3 0 65535", 0);
        // the first and the last letter are blocks of their own
        Bench y = Bench.of("machine 3;edge 0 1 [0];edge 0 2 [65535];end 1;edge 2 1 [3]");
        y.yes("go 0 0 0", 1);
        y.yes("go 0 0 1", 2);
        y.yes("go 0 0 65534", 2);
        y.yes("go 0 0 65535", 3);
        y.yes("go 0 3 3", 1);
    }

    /** 23: NONE: 1 (m, c); 2: a number that is no LETTER. */
    private static void refusedGo() {
        Bench x = Bench.of(TEXT);
        x.none("go # 0 0", MACHINES, 1);
        for (int m = 0; m < MACHINES; m++) {
            x.none("go " + m + " # 0", CLASSES[m], 1);
            x.none("go " + m + " 0 #", 65536, 2);
        }
        x.none("go 1 3 #", 65536, 2);
        // m and c are looked at ahead of the letter
        x.none("go # 0 65536", MACHINES, 1);
        x.none("go 0 # -1", CLASSES[0], 1);
    }

    /** 24: 1 if a CLASS is an END, 0. */
    private static void takes() {
        Bench x = Bench.of(TEXT);
        int[][] due = {{0, 0, 1}, {0, 0, 0, 1}, {1}, {0}};
        for (int m = 0; m < MACHINES; m++) {
            for (int c = 0; c < CLASSES[m]; c++) {
                x.yes("takes " + m + " " + c, due[m][c]);
            }
        }
    }

    /** 24: NONE: 1 (c, too). */
    private static void noSuchTakes() {
        Bench x = Bench.of(TEXT);
        x.none("takes # 0", MACHINES, 1);
        for (int m = 0; m < MACHINES; m++) {
            x.none("takes " + m + " #", CLASSES[m], 1);
        }
    }

    /** 25: the CLASS behind whose WORDS nothing makes them TAKEN; -2 without one. */
    private static void dead() {
        Bench x = Bench.of(TEXT);
        x.yes("dead 0", -2);
        x.yes("dead 1", 2);
        x.yes("dead 2", -2);
        x.yes("dead 3", 0);
        // a class of its own that all letters lead to is none if it is an END; an END that can't be reached makes none
        Bench y = Bench.of("machine 2;edge 0 1 [4];edge 1 1 any;end 1;machine 2;end 1;machine 1;end 0;"
                + "machine 2;edge 0 1 any;edge 1 1 any;end 1");
        y.yes("dead 0", 1);
        y.yes("dead 1", 0);
        y.yes("dead 2", 1);
        y.yes("dead 3", -2);
    }

    /** 25: NONE: 1. */
    private static void noSuchDead() {
        Bench.of(TEXT).none("dead #", MACHINES, 1);
    }

    /** 26: how many LETTERS the first WORD of a CLASS has: none, if it is that of the WORD without LETTERS. */
    private static void first() {
        Bench x = Bench.of(TEXT);
        int[][] due = {{0, 1, 2}, {0, 1, 2, 2}, {0}, {0}};
        for (int m = 0; m < MACHINES; m++) {
            for (int c = 0; c < CLASSES[m]; c++) {
                x.yes("first " + m + " " + c, due[m][c]);
            }
        }
    }

    /** 26: NONE: 1 (c, too). */
    private static void noSuchFirst() {
        Bench x = Bench.of(TEXT);
        x.none("first # 0", MACHINES, 1);
        for (int m = 0; m < MACHINES; m++) {
            x.none("first " + m + " #", CLASSES[m], 1);
        }
    }

    /** 27: the i-th LETTER of it. */
    private static void firstLetter() {
        Bench x = Bench.of(TEXT);
        x.word("first 0 0", "firstLetter 0 0");
        x.word("first 0 1", "firstLetter 0 1", 1);
        x.word("first 0 2", "firstLetter 0 2", 1, 2);
        x.word("first 1 1", "firstLetter 1 1", 0);
        x.word("first 1 2", "firstLetter 1 2", 0, 0);
        x.word("first 1 3", "firstLetter 1 3", 0, 5);
        x.word("first 2 0", "firstLetter 2 0");
        // the last letter; of like long words that with the less letter where they first differ
        Bench y = Bench.of("machine 4;edge 0 1 [65535];end 1;machine 4;edge 0 1 [9];edge 0 2 [8];edge 1 3 [0];"
                + "edge 2 3 [65535];edge 1 1 [1];end 3");
        y.word("first 0 2", "firstLetter 0 2", 65535);
        y.word("first 1 4", "firstLetter 1 4", 8, 65535);
    }

    /** 27: NONE: 1 (c, i, too). */
    private static void noSuchFirstLetter() {
        Bench x = Bench.of(TEXT);
        x.none("firstLetter # 1 0", MACHINES, 1);
        x.none("firstLetter # 0 0", MACHINES, 1);
        int[][] letters = {{0, 1, 2}, {0, 1, 2, 2}, {0}, {0}};
        for (int m = 0; m < MACHINES; m++) {
            x.none("firstLetter " + m + " # 0", CLASSES[m], 1);
            for (int c = 0; c < CLASSES[m]; c++) {
                x.none("firstLetter " + m + " " + c + " #", letters[m][c], 1);
            }
        }
    }

    /**
     * 28: the first WORD that, behind those of two CLASSES, makes one TAKEN and the other not: how many LETTERS; -2 of one
     * and the same.
     */
    private static void parting() {
        Bench x = Bench.of(TEXT);
        int[][] first = {{-2, 1, 0}, {1, -2, 0}, {0, 0, -2}};
        int[][] second = {{-2, 1, 2, 0}, {1, -2, 1, 0}, {2, 1, -2, 0}, {0, 0, 0, -2}};
        for (int c = 0; c < 4; c++) {
            for (int d = 0; d < 4; d++) {
                if (c < 3 && d < 3) {
                    x.yes("parting 0 " + c + " " + d, first[c][d]);
                }
                x.yes("parting 1 " + c + " " + d, second[c][d]);
            }
        }
        x.yes("parting 2 0 0", -2);
        x.yes("parting 3 0 0", -2);
    }

    /** 28: NONE: 1 (c, d, too): also if both are one and the same that isn't there. */
    private static void noSuchParting() {
        Bench x = Bench.of(TEXT);
        x.none("parting # 0 0", MACHINES, 1);
        x.none("parting # 0 1", MACHINES, 1);
        for (int m = 0; m < MACHINES; m++) {
            x.none("parting " + m + " # 0", CLASSES[m], 1);
            x.none("parting " + m + " 0 #", CLASSES[m], 1);
            x.none("parting " + m + " # #", CLASSES[m], 1);
        }
    }

    /** 29: the i-th LETTER of it. */
    private static void partingLetter() {
        Bench x = Bench.of(TEXT);
        x.word("parting 0 0 1", "partingLetter 0 0 1", 2);
        x.word("parting 0 1 0", "partingLetter 0 1 0", 2);
        x.word("parting 0 1 2", "partingLetter 0 1 2");
        x.word("parting 1 0 1", "partingLetter 1 0 1", 5);
        x.word("parting 1 0 2", "partingLetter 1 0 2", 0, 5);
        x.word("parting 1 2 0", "partingLetter 1 2 0", 0, 5);
        x.word("parting 1 3 0", "partingLetter 1 3 0");
        // the last letter alone; of shorter words the first: 9 8 parts 2 and 3, too, but 3 is less
        Bench y = Bench.of("machine 5;edge 0 1 [1];edge 0 2 [2];edge 1 3 [3,9];edge 2 3 [4];edge 3 4 [8];edge 4 3 [2];"
                + "end 4;machine 2;edge 0 1 [65535];end 1");
        // classes: 0; 0 dead; 1; 2; 1 3; 1 3 8
        y.yes("size 0 6", 6);
        y.word("first 0 5", "firstLetter 0 5", 1, 3, 8);
        y.word("parting 0 2 3", "partingLetter 0 2 3", 3, 8);
        y.word("parting 0 0 1", "partingLetter 0 0 1", 1, 3, 8);
        y.word("parting 0 0 3", "partingLetter 0 0 3", 4, 8);
        y.word("parting 0 4 1", "partingLetter 0 4 1", 8);
        y.yes("dead 0", 1);
        y.word("parting 1 0 1", "partingLetter 1 0 1", 65535);
    }

    /** 29: NONE: 1 (c, d, i, too; one and the same, too). */
    private static void noSuchPartingLetter() {
        Bench x = Bench.of(TEXT);
        x.none("partingLetter # 0 1 0", MACHINES, 1);
        for (int m = 0; m < MACHINES; m++) {
            x.none("partingLetter " + m + " # 0 0", CLASSES[m], 1);
            x.none("partingLetter " + m + " 0 # 0", CLASSES[m], 1);
            x.none("partingLetter " + m + " # # 0", CLASSES[m], 1);
            // one and the same has no word: not even a first letter
            for (int c = 0; c < CLASSES[m]; c++) {
                x.none("partingLetter " + m + " " + c + " " + c + " #", 0, 1);
            }
        }
        x.none("partingLetter 0 0 1 #", 1, 1);
        x.none("partingLetter 0 0 2 #", 0, 1);
        x.none("partingLetter 1 2 0 #", 2, 1);
        x.none("partingLetter 1 3 2 #", 0, 1);
    }

    /** 30: by WORDS of how many LETTERS at most any two CLASSES are parted (0 with one CLASS). */
    private static void rounds() {
        Bench x = Bench.of(TEXT);
        x.yes("rounds 0", 1);
        x.yes("rounds 1", 2);
        x.yes("rounds 2", 0);
        x.yes("rounds 3", 0);
        // two classes that the word without letters parts; two that one letter parts, behind one that none parts
        Bench y = Bench.of("machine 1;end 0;machine 2;edge 0 1 [1];end 1;machine 2;end 1;"
                + "machine 4;edge 0 1 [1];edge 1 2 [3,9];edge 0 3 [2];edge 3 2 [4];end 2");
        y.yes("rounds 0", 0);
        y.yes("size 0 6", 2);
        y.yes("rounds 1", 1);
        y.yes("rounds 2", 0);
        y.yes("rounds 3", 2);
    }

    /** 30: NONE: 1. */
    private static void noSuchRounds() {
        Bench.of(TEXT).none("rounds #", MACHINES, 1);
    }

    /** I: states that take the same words behind them are one class, whatever blocks part their edges. */
    private static void likeWords() {
        Bench x = Bench.of("machine 4;edge 0 1 [1];edge 0 2 [2];edge 1 3 [5..9];edge 2 3 [5..7,8..9];edge 3 3 any;end 3;"
                + "machine 3;edge 0 1 [1];edge 0 2 [2];end 1;end 2;machine 2;edge 0 0 [5];edge 0 1 ![5];edge 1 0 any;"
                + "end 0;end 1");
        x.yes("size 0 4", 5);
        x.yes("size 0 6", 4);
        x.yes("go 0 0 1", 2);
        x.yes("go 0 0 2", 2);
        x.yes("size 1 4", 4);
        x.yes("size 1 6", 3);
        x.yes("rounds 1", 1);
        x.yes("size 2 6", 1);
        x.yes("dead 2", -2);
        x.yes("size 2 4", 2);
    }

    /** A chain of 12: classes by how much is left; words that part them have up to 11 letters. */
    private static void many() {
        StringBuilder text = new StringBuilder("machine 12;end 11");
        for (int i = 0; i < 11; i++) {
            text.append(";edge ").append(i).append(' ').append(i + 1).append(" [").append(i % 2).append(']');
        }
        Bench x = Bench.of(text.toString());
        // the dead class comes by the letter 1, behind class 1
        x.yes("size 0 6", 13);
        x.yes("dead 0", 2);
        x.yes("rounds 0", 11);
        x.word("parting 0 0 2", "partingLetter 0 0 2", 0, 1, 0, 1, 0, 1, 0, 1, 0, 1, 0);
        x.word("first 0 12", "firstLetter 0 12", 0, 1, 0, 1, 0, 1, 0, 1, 0, 1, 0);
        x.none("takes 0 #", 13, 1);
        x.none("firstLetter 0 12 #", 11, 1);
        x.none("partingLetter 0 0 2 #", 11, 1);
    }

    /** A ring of 40, as many classes as there can be: words of up to 39 letters lead to them, of up to 38 part them. */
    private static void mostClasses() {
        Bench x = Bench.of(Parts.ring(5, 0) + ";" + Parts.ring(8, 0));
        x.yes("join 0 1 8", 2);
        x.yes("size 2 6", 40);
        x.yes("first 2 39", 39);
        x.none("first 2 #", 40, 1);
        x.none("firstLetter 2 39 #", 39, 1);
        x.yes("firstLetter 2 39 38", 0);
        x.yes("takes 2 0", 1);
        x.yes("takes 2 39", 0);
        x.yes("go 2 39 65535", 0);
        x.none("go 2 # 0", 40, 1);
        x.yes("parting 2 1 2", 38);
        x.none("partingLetter 2 1 2 #", 38, 1);
        x.yes("rounds 2", 38);
        x.yes("dead 2", -2);
    }

    /** No MACHINES: 0 is none such. */
    private static void withoutMachines() {
        Bench x = new Bench();
        for (String call : new String[] {"go 0 0 0", "go 0 0 -1", "takes 0 0", "dead 0", "first 0 0", "firstLetter 0 0 0",
            "parting 0 0 0", "parting 0 0 1", "partingLetter 0 0 0 0", "partingLetter 0 0 1 0", "rounds 0"}) {
            x.no(call, 1);
        }
    }
}
