/** Promises 40 to 43 and 55: first words of which a function is true, same, within, twin. */
public final class TwoMachinesTest {
    /** Machine 0: letters 1 or 2, then 3; machine 1: letter 2, then 3..4; machine 2: like 0, other states; 3: none. */
    private static final String TEXT = "machine 3;edge 0 1 [1..2];edge 1 2 [3];end 2;"
            + "machine 3;edge 0 1 [2];edge 1 2 [3..4];end 2;"
            + "machine 4;edge 0 1 [1];edge 0 2 [2];edge 1 3 [3];edge 2 3 [3];end 3;machine 1";
    private static final int MACHINES = 4;

    public static void main(String[] args) {
        found();
        foundOfEachFunction();
        refusedFound();
        foundLetter();
        refusedFoundLetter();
        same();
        noSuchSame();
        within();
        noSuchWithin();
        twin();
        noTwin();
        longWords();
        withoutMachines();
        Bench.end();
    }

    /** 40: the first WORD of which f is true (x: a TAKES it; y: b does): how many LETTERS; -2 without one. */
    private static void found() {
        Bench x = Bench.of(TEXT);
        x.yes("found 0 1 0", -2);
        x.yes("found 0 1 1", 0);
        x.yes("found 0 1 2", 2);
        x.yes("found 0 1 4", 2);
        x.yes("found 0 1 8", 2);
        x.yes("found 0 1 15", 0);
        // of two that take the same words neither takes one alone; of two that take none, none takes any
        x.yes("found 0 2 6", -2);
        x.yes("found 0 2 2", -2);
        x.yes("found 0 2 4", -2);
        x.yes("found 3 3 8", -2);
        x.yes("found 3 3 14", -2);
        x.yes("found 3 0 2", -2);
        x.yes("found 3 0 8", -2);
        x.yes("found 0 0 6", -2);
        x.yes("found 0 0 0", -2);
    }

    /** a takes 1 and 3, b takes 2 and 3, so that 0, 1, 2, 3 are taken by neither, a alone, b alone, both. */
    private static void foundOfEachFunction() {
        Bench x = Bench.of("machine 2;edge 0 1 [1,3];end 1;end 0;machine 2;edge 0 1 [2..3];end 1;end 0");
        for (int f = 0; f < 16; f++) {
            int first = Integer.numberOfTrailingZeros(f);
            // the word without letters is taken by both
            if (f >= 8) {
                x.word("found 0 1 " + f, "foundLetter 0 1 " + f);
            } else if (f > 0) {
                x.word("found 0 1 " + f, "foundLetter 0 1 " + f, first);
            } else {
                x.yes("found 0 1 0", -2);
                x.none("foundLetter 0 1 0 #", 0, 1);
            }
        }
    }

    /** 40: NONE: 1; 2. */
    private static void refusedFound() {
        Bench x = Bench.of(TEXT);
        x.none("found # 0 8", MACHINES, 1);
        x.none("found 0 # 8", MACHINES, 1);
        x.none("found # # 8", MACHINES, 1);
        x.none("found 0 1 #", 16, 2);
        x.none("found 3 3 #", 16, 2);
        // a and b are looked at ahead of f
        x.none("found # 0 16", MACHINES, 1);
        x.none("found 0 # -1", MACHINES, 1);
    }

    /** 41: the i-th LETTER of it. */
    private static void foundLetter() {
        Bench x = Bench.of(TEXT);
        x.word("found 0 1 1", "foundLetter 0 1 1");
        x.word("found 0 1 2", "foundLetter 0 1 2", 1, 3);
        x.word("found 1 0 2", "foundLetter 1 0 2", 2, 4);
        x.word("found 0 1 4", "foundLetter 0 1 4", 2, 4);
        x.word("found 0 1 8", "foundLetter 0 1 8", 2, 3);
        x.word("found 0 1 6", "foundLetter 0 1 6", 1, 3);
        x.word("found 0 1 14", "foundLetter 0 1 14", 1, 3);
        x.word("found 0 1 15", "foundLetter 0 1 15");
        x.word("found 3 3 9", "foundLetter 3 3 9");
        x.word("found 3 0 4", "foundLetter 3 0 4", 1, 3);
        // the first and the last letter; of shorter words the first
        Bench y = Bench.of("machine 2;edge 0 1 any;end 1;machine 2;edge 0 1 any-[65535];end 1;"
                + "machine 2;edge 0 1 ![0];end 1;machine 4;edge 0 1 [9];edge 0 2 [8];edge 2 3 any;edge 3 1 any;end 1");
        y.word("found 0 1 2", "foundLetter 0 1 2", 65535);
        y.word("found 0 2 2", "foundLetter 0 2 2", 0);
        y.word("found 3 3 8", "foundLetter 3 3 8", 9);
    }

    /** 41: NONE: 1 (a, b); 2 (f); 1 (i; without one, too). */
    private static void refusedFoundLetter() {
        Bench x = Bench.of(TEXT);
        x.none("foundLetter # 0 8 0", MACHINES, 1);
        x.none("foundLetter 0 # 8 0", MACHINES, 1);
        x.none("foundLetter # # 8 0", MACHINES, 1);
        x.none("foundLetter 0 1 # 0", 16, 2);
        x.none("foundLetter 0 1 8 #", 2, 1);
        x.none("foundLetter 0 1 15 #", 0, 1);
        // without one
        x.none("foundLetter 0 1 0 #", 0, 1);
        x.none("foundLetter 0 2 6 #", 0, 1);
        x.none("foundLetter 3 3 8 #", 0, 1);
        // a and b are looked at ahead of f, f ahead of i
        x.none("foundLetter # 0 16 0", MACHINES, 1);
        x.none("foundLetter 0 # -1 9", MACHINES, 1);
        x.none("foundLetter 0 1 # 9", 16, 2);
        x.none("foundLetter 0 1 # -1", 16, 2);
    }

    /** 42: 1 if a and b TAKE the same WORDS, 0. */
    private static void same() {
        Bench x = Bench.of(TEXT);
        int[][] due = {{1, 0, 1, 0}, {0, 1, 0, 0}, {1, 0, 1, 0}, {0, 0, 0, 1}};
        for (int a = 0; a < MACHINES; a++) {
            for (int b = 0; b < MACHINES; b++) {
                x.yes("same " + a + " " + b, due[a][b]);
            }
        }
        // the word without letters alone, the last letter alone
        Bench y = Bench.of("machine 1;end 0;machine 1;machine 2;edge 0 1 any;end 1;machine 2;edge 0 1 any-[65535];end 1");
        y.yes("same 0 1", 0);
        y.yes("same 2 3", 0);
        y.yes("other 1", 4);
        y.yes("other 4", 5);
        y.yes("same 1 5", 1);
        y.yes("same 5 1", 1);
        y.yes("same 4 5", 0);
    }

    /** 42: NONE: 1. */
    private static void noSuchSame() {
        Bench x = Bench.of(TEXT);
        x.none("same # 0", MACHINES, 1);
        x.none("same 0 #", MACHINES, 1);
        x.none("same # #", MACHINES, 1);
    }

    /** 43: 1 if b TAKES all WORDS that a TAKES, 0. */
    private static void within() {
        Bench x = Bench.of(TEXT);
        int[][] due = {{1, 0, 1, 0}, {0, 1, 0, 0}, {1, 0, 1, 0}, {1, 1, 1, 1}};
        for (int a = 0; a < MACHINES; a++) {
            for (int b = 0; b < MACHINES; b++) {
                x.yes("within " + a + " " + b, due[a][b]);
            }
        }
        x.yes("join 0 1 8", 4);
        x.yes("within 4 0", 1);
        x.yes("within 4 1", 1);
        x.yes("within 0 4", 0);
        // all words: any is within it
        x.yes("other 3", 5);
        x.yes("within 0 5", 1);
        x.yes("within 5 0", 0);
        x.yes("within 3 5", 1);
        x.yes("within 5 5", 1);
    }

    /** 43: NONE: 1. */
    private static void noSuchWithin() {
        Bench x = Bench.of(TEXT);
        x.none("within # 0", MACHINES, 1);
        x.none("within 0 #", MACHINES, 1);
        x.none("within # #", MACHINES, 1);
    }

    /** 55: the first MACHINE, by numbers, ahead of m that TAKES the same WORDS as m. It tells no TROUBLE. */
    private static void twin() {
        Bench x = Bench.of(TEXT);
        x.no("size 9 9", 1);
        x.still("twin 2", 0);
        x.plain("trouble", 1);
        x.yes("least 2", 4);
        x.yes("least 1", 5);
        x.yes("sure 3", 6);
        x.still("twin 4", 0);
        x.still("twin 5", 1);
        x.still("twin 6", 3);
        x.plain("trouble", 0);
        x.yes("drop", 6);
        x.still("twin 5", 1);
        // behind a fault its place stays
        x.faulty("machine 0", 4, 8);
        x.still("twin 2", 0);
        x.plain("where", 8);
    }

    /** 55: NoSuchElementException without one, or without m; TROUBLE and where() stay. */
    private static void noTwin() {
        Bench x = Bench.of(TEXT);
        // none ahead of 0; 2 takes what 0 does, but it is behind; nothing like 1 and 3 is ahead of them
        x.lacks("twin 0");
        x.lacks("twin 1");
        x.lacks("twin 3");
        for (int m : new int[] {-1, 4, 5, -5, 65536 | 2, 1 << 30, Integer.MAX_VALUE, Integer.MIN_VALUE}) {
            x.lacks("twin " + m);
        }
        x.yes("least 1", 4);
        x.plain("twin 4", 1);
        x.yes("drop", 4);
        x.lacks("twin 4");
        x.no("more -1", 2);
        x.lacks("twin 9");
        x.plain("trouble", 2);
        x.faulty("machine 0", 4, 8);
        x.lacks("twin 9");
        x.lacks("twin 0");
        x.plain("where", 8);
        x.plain("trouble", 4);
        // as many machines as there can be: none of the others is like the last
        Bench y = Bench.of("machine 12;edge 0 1 [1];end 1;machine 1");
        for (int m = 2; m < 10; m++) {
            y.yes("moved " + (m == 2 ? 0 : m - 1) + " 1", m);
        }
        y.lacks("twin 9");
        y.lacks("twin 10");
        y.yes("drop", 9);
        y.yes("moved 0 0", 9);
        y.plain("twin 9", 0);
    }

    /** Lengths that 7 and 11 both divide: the first word that both take, but for the empty one, has 77 letters. */
    private static void longWords() {
        Bench x = Bench.of(Parts.ring(7, 0) + ";" + Parts.ring(11, 0) + ";machine 2;edge 0 1 any;edge 1 1 any;end 1");
        x.yes("found 0 1 8", 0);
        // the machine of pairs would have 77 states
        x.no("join 0 1 8", 3);
        x.yes("join 0 2 8", 3);
        x.yes("found 3 1 8", 77);
        for (int i = 0; i < 77; i += 19) {
            x.yes("foundLetter 3 1 8 " + i, 0);
        }
        x.none("foundLetter 3 1 8 #", 77, 1);
        longestWord();
    }

    /** Rings of 39 and 40 classes: of all lengths that 39 divides, 1521 is the first that is 1 more than 40 divides. */
    private static void longestWord() {
        Bench x = Bench.of(Parts.ring(5, 1) + ";" + Parts.ring(8, 1) + ";" + Parts.chain(10)
                + ";" + Parts.chain(3));
        x.yes("behind 2 3", 4);
        x.yes("again 4", 5);
        x.yes("again 3", 6);
        x.yes("join 5 6 8", 7);
        x.yes("join 0 1 8", 8);
        x.yes("size 7 6", 39);
        x.yes("size 8 6", 40);
        x.yes("found 7 8 8", 1521);
        x.yes("foundLetter 7 8 8 0", 0);
        x.yes("foundLetter 7 8 8 1520", 0);
        x.none("foundLetter 7 8 8 #", 1521, 1);
        x.yes("same 7 8", 0);
        x.yes("within 7 8", 0);
        x.yes("found 8 7 8", 1521);
        x.no("join 7 8 8", 3);
    }

    /** No MACHINES: 0 is none such. */
    private static void withoutMachines() {
        Bench x = new Bench();
        for (String call : new String[] {"found 0 0 8", "found 0 0 16", "foundLetter 0 0 8 0", "foundLetter 0 0 16 0",
            "same 0 0", "within 0 0"}) {
            x.no(call, 1);
        }
        x.lacks("twin 0");
        x.lacks("twin -1");
    }
}
