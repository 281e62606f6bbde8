/** Promises 31 to 39: the word, what it leads to, how many words are taken and which. */
public final class WordsTest {
    /** Machine 0 takes 3..5 and then any of 10..19 or 65535; machine 1 words of even length; machine 2 only the empty one. */
    private static final String TEXT = "machine 3;edge 0 1 [3..5];edge 1 2 [10..19,65535];end 2;"
            + "machine 2;edge 0 1 any;edge 1 0 any;end 0;machine 1;end 0;machine 1;edge 0 0 any";
    private static final int MACHINES = 4;

    public static void main(String[] args) {
        word();
        refusedWord();
        more();
        refusedMore();
        fullWord();
        taken();
        leads();
        classOf();
        noSuchMachine();
        place();
        refusedPlace();
        count();
        refusedCount();
        at();
        refusedAt();
        longest();
        withoutMachines();
        Bench.end();
    }

    /** 31: THE WORD is the first n of a, b, c, d from now on: n. */
    private static void word() {
        Bench x = new Bench();
        wordOf(x, "word 4 1 2 3 65535", 1, 2, 3, 65535);
        wordOf(x, "word 4 0 0 0 0", 0, 0, 0, 0);
        // others than the first n may be anything
        wordOf(x, "word 3 65535 0 7 -1", 65535, 0, 7);
        wordOf(x, "word 3 65535 0 7 65536", 65535, 0, 7);
        wordOf(x, "word 2 9 65535 65536 -2147483648", 9, 65535);
        wordOf(x, "word 1 9 -1 65536 2147483647", 9);
        wordOf(x, "word 0 -1 65536 -1 -1");
        wordOf(x, "word 0 1 2 3 4");
        // what was in it ahead is no more
        wordOf(x, "word 4 1 2 3 4", 1, 2, 3, 4);
        wordOf(x, "word 1 5 6 7 8", 5);
        x.yes("more 9", 2);
        x.yes("letter 1", 9);
    }

    private static void wordOf(Bench x, String call, int... letters) {
        x.yes(call, letters.length);
        x.still("total 3", letters.length);
        for (int i = 0; i < letters.length; i++) {
            x.yes("letter " + i, letters[i]);
        }
        x.no("letter " + letters.length, 1);
    }

    /** 31: NONE: 2 (n 0 .. 4; one of the n that is no LETTER): THE WORD stays. */
    private static void refusedWord() {
        for (Bench x : new Bench[] {new Bench(), Bench.full()}) {
            x.none("word # 1 2 3 4", 5, 2);
            x.none("word # 65536 -1 3 4", 5, 2);
            for (int n = 1; n <= 4; n++) {
                x.none("word " + n + " # 2 3 4", 65536, 2);
            }
            for (int n = 2; n <= 4; n++) {
                x.none("word " + n + " 1 # 3 4", 65536, 2);
            }
            x.none("word 3 1 2 # 4", 65536, 2);
            x.none("word 4 1 2 # 4", 65536, 2);
            x.none("word 4 1 2 3 #", 65536, 2);
            x.none("word 4 # # # #", 65536, 2);
        }
        Bench y = Bench.full();
        y.no("word 1 -1 0 0 0", 2);
        y.plain("total 3", 2);
        y.yes("letter 0", 1);
        y.yes("letter 1", 3);
    }

    /** 32: a LETTER comes behind THE WORD: how many it has. */
    private static void more() {
        Bench x = new Bench();
        x.yes("more 0", 1);
        x.yes("more 65535", 2);
        x.yes("letter 0", 0);
        x.yes("letter 1", 65535);
        x.yes("word 2 1 2 0 0", 2);
        x.yes("more 3", 3);
        x.yes("letter 2", 3);
        x.yes("word 0 0 0 0 0", 0);
        x.yes("more 4", 1);
        x.yes("letter 0", 4);
        x.no("letter 1", 1);
    }

    /** 32: NONE: 2: a number that is no LETTER. */
    private static void refusedMore() {
        new Bench().none("more #", 65536, 2);
        Bench x = Bench.full();
        x.none("more #", 65536, 2);
        x.plain("total 3", 2);
    }

    /** 32: 3 (16 at most). */
    private static void fullWord() {
        Bench x = Bench.full();
        x.yes("word 0 0 0 0 0", 0);
        for (int n = 1; n <= 16; n++) {
            x.yes("more " + (65536 - n), n);
        }
        x.no("more 0", 3);
        x.no("more 65535", 3);
        x.plain("total 3", 16);
        x.yes("letter 0", 65535);
        x.yes("letter 15", 65520);
        x.none("letter #", 16, 1);
        // what is no letter is looked at ahead of the room
        x.none("more #", 65536, 2);
        // all sixteen count: machine 2 takes even words
        x.yes("taken 2", 1);
        x.yes("leads 2", 1);
        x.yes("word 3 0 0 0 0", 3);
        for (int n = 4; n <= 16; n++) {
            x.yes("more 0", n);
            x.yes("taken 2", n % 2 == 0 ? 1 : 0);
            x.yes("leads 2", n % 2 == 0 ? 1 : 2);
            x.yes("classOf 2", n % 2);
        }
        x.no("more 0", 3);
        x.yes("word 1 7 0 0 0", 1);
        x.yes("more 8", 2);
    }

    /** 33: 1 if a MACHINE TAKES THE WORD, 0. */
    private static void taken() {
        Bench x = Bench.of(TEXT);
        // of no letters
        takenBy(x, 0, 1, 1, 0);
        x.yes("word 1 4 0 0 0", 1);
        takenBy(x, 0, 0, 0, 0);
        x.yes("more 65535", 2);
        takenBy(x, 1, 1, 0, 0);
        x.yes("more 0", 3);
        takenBy(x, 0, 0, 0, 0);
        for (String word : new String[] {"3 10", "5 19", "5 65535"}) {
            x.yes("word 2 " + word + " 0 0", 2);
            x.yes("taken 0", 1);
        }
        for (String word : new String[] {"2 10", "6 10", "3 9", "3 20", "3 65534", "0 0", "65535 65535"}) {
            x.yes("word 2 " + word + " 0 0", 2);
            x.yes("taken 0", 0);
        }
    }

    private static void takenBy(Bench x, int... due) {
        for (int m = 0; m < due.length; m++) {
            x.yes("taken " + m, due[m]);
        }
    }

    /** 34: THE WORD's SHEAF, as bits; 0 without STATES. */
    private static void leads() {
        Bench x = Bench.of(TEXT);
        x.yes("leads 0", 1);
        x.yes("leads 2", 1);
        x.yes("word 1 4 0 0 0", 1);
        x.yes("leads 0", 2);
        x.yes("leads 1", 2);
        x.yes("leads 2", 0);
        x.yes("more 65535", 2);
        x.yes("leads 0", 4);
        x.yes("leads 1", 1);
        x.yes("more 0", 3);
        x.yes("leads 0", 0);
        x.yes("leads 1", 2);
        x.yes("leads 3", 1);
        // free steps ahead, between, behind
        Bench y = Bench.of("machine 12;free 0 10;edge 10 11 [1];free 11 9;edge 9 1 [2];free 1 8;free 8 7");
        y.yes("leads 0", 1 | 1 << 10);
        y.yes("word 1 1 0 0 0", 1);
        y.yes("leads 0", 1 << 11 | 1 << 9);
        y.yes("more 2", 2);
        y.yes("leads 0", 2 | 1 << 8 | 1 << 7);
        y.yes("more 2", 3);
        y.yes("leads 0", 0);
    }

    /** 35: THE WORD's CLASS. */
    private static void classOf() {
        Bench x = Bench.of(TEXT);
        for (int m = 0; m < MACHINES; m++) {
            x.yes("classOf " + m, 0);
        }
        x.yes("word 1 4 0 0 0", 1);
        // 0 is dead and comes ahead of 4
        x.yes("classOf 0", 2);
        x.yes("classOf 1", 1);
        x.yes("classOf 2", 1);
        x.yes("classOf 3", 0);
        x.yes("more 65535", 2);
        x.yes("classOf 0", 3);
        x.yes("classOf 1", 0);
        x.yes("more 0", 3);
        x.yes("classOf 0", 1);
    }

    /** 33 to 36, 39: NONE (-1): 1. */
    private static void noSuchMachine() {
        Bench x = Bench.of(TEXT);
        for (String name : new String[] {"taken", "leads", "classOf", "place", "longest"}) {
            x.none(name + " #", MACHINES, 1);
        }
        x.yes("word 4 3 10 0 0", 4);
        x.yes("more 7", 5);
        for (String name : new String[] {"taken", "leads", "classOf", "place", "longest"}) {
            x.none(name + " #", MACHINES, 1);
        }
    }

    /** 36: how many WORDS as long as THE WORD that come ahead of it are TAKEN. */
    private static void place() {
        Bench x = Bench.of(TEXT);
        // of no letters: none comes ahead
        x.yes("place 0", 0);
        x.yes("place 1", 0);
        x.yes("place 2", 0);
        x.yes("place 3", 0);
        long[][] due = {{0, 0, 0}, {3, 9, 0}, {3, 10, 0}, {3, 11, 1}, {3, 19, 9}, {3, 20, 10}, {3, 65535, 10}, {4, 0, 11},
            {4, 12, 13}, {5, 65534, 32}, {5, 65535, 32}, {6, 0, 33}, {65535, 65535, 33}};
        for (long[] each : due) {
            x.yes("word 2 " + each[0] + " " + each[1] + " 0 0", 2);
            x.yes("place 0", each[2]);
        }
        x.yes("place 1", 4294967295L);
        x.yes("place 2", 0);
        x.yes("place 3", 0);
        x.yes("word 2 32768 0 0 0", 2);
        x.yes("place 1", 2147483648L);
        x.yes("word 1 5 0 0 0", 1);
        x.yes("place 0", 0);
        x.yes("word 3 0 0 0 0", 3);
        x.yes("place 1", 0);
        Bench y = Bench.of("machine 2;end 1;edge 0 1 any;edge 1 1 any");
        y.yes("word 3 65535 65535 65535 0", 3);
        y.yes("place 0", 281474976710655L);
        y.yes("word 3 1 2 3 0", 3);
        y.yes("place 0", 65536L * 65536 + 2 * 65536 + 3);
        y.yes("word 3 0 0 0 0", 3);
        y.yes("place 0", 0);
        y.yes("word 1 65535 0 0 0", 1);
        y.yes("place 0", 65535);
    }

    /** 36: -1: 1; 5 (it has more than 3 LETTERS). */
    private static void refusedPlace() {
        Bench x = Bench.of(TEXT);
        x.yes("word 3 3 10 0 0", 3);
        x.yes("place 0", 0);
        for (int n = 4; n <= 16; n++) {
            x.yes("more 0", n);
            for (int m = 0; m < MACHINES; m++) {
                x.no("place " + m, 5);
            }
            x.no("place 4", 1);
        }
        x.none("place #", MACHINES, 1);
        x.yes("word 4 3 10 0 0", 4);
        x.no("place 0", 5);
        x.yes("word 3 3 10 0 0", 3);
        x.yes("place 0", 0);
    }

    /** 37: how many WORDS of n LETTERS (0 .. 3) are TAKEN. */
    private static void count() {
        Bench x = Bench.of(TEXT);
        long[][] due = {{0, 0, 33, 0}, {1, 0, 4294967296L, 0}, {1, 0, 0, 0}, {0, 0, 0, 0}};
        for (int m = 0; m < MACHINES; m++) {
            for (int n = 0; n < 4; n++) {
                x.yes("count " + m + " " + n, due[m][n]);
            }
        }
        // words are counted once, however many ways lead to an end; as many as there are
        Bench y = Bench.of("machine 2;edge 0 1 [1..9];edge 0 1 [5..20];edge 0 0 [7];end 1;end 0;"
                + "machine 1;edge 0 0 any;end 0");
        long all = 1;
        for (int n = 0; n < 4; n++) {
            y.yes("count 0 " + n, n == 0 ? 1 : 20);
            y.yes("count 1 " + n, all);
            all *= 65536;
        }
    }

    /** 37: -1: 1; 2: n is none of 0 .. 3. */
    private static void refusedCount() {
        Bench x = Bench.of(TEXT);
        x.none("count # 0", MACHINES, 1);
        x.none("count # 3", MACHINES, 1);
        for (int m = 0; m < MACHINES; m++) {
            x.none("count " + m + " #", 4, 2);
        }
        // m is looked at ahead of n
        x.none("count # 4", MACHINES, 1);
        x.none("count # -1", MACHINES, 1);
    }

    /** 38: the i-th LETTER of the k-th (from 0) WORD of n LETTERS (1 .. 3) that is TAKEN. */
    private static void at() {
        Bench x = Bench.of(TEXT);
        int k = 0;
        for (int a = 3; a <= 5; a++) {
            for (int b = 10; b <= 20; b++) {
                x.yes("at 0 2 " + k + " 0", a);
                x.yes("at 0 2 " + k + " 1", b == 20 ? 65535 : b);
                k++;
            }
        }
        x.yes("at 1 2 4294967295 0", 65535);
        x.yes("at 1 2 4294967295 1", 65535);
        x.yes("at 1 2 65537 0", 1);
        x.yes("at 1 2 65537 1", 1);
        x.yes("at 1 2 2147483648 0", 32768);
        x.yes("at 1 2 2147483648 1", 0);
        Bench y = Bench.of("machine 1;end 0;edge 0 0 any");
        long far = (12345L * 65536 + 54321) * 65536 + 999;
        y.yes("at 0 3 " + far + " 0", 12345);
        y.yes("at 0 3 " + far + " 1", 54321);
        y.yes("at 0 3 " + far + " 2", 999);
        for (int i = 0; i < 3; i++) {
            y.yes("at 0 3 0 " + i, 0);
            y.yes("at 0 3 281474976710655 " + i, 65535);
        }
        y.yes("at 0 1 0 0", 0);
        y.yes("at 0 1 65535 0", 65535);
    }

    /** 38: NONE: 1 (m); 2 (n); 1 (k, i). */
    private static void refusedAt() {
        Bench x = Bench.of(TEXT);
        x.none("at # 2 0 0", MACHINES, 1);
        for (int m = 0; m < MACHINES; m++) {
            for (int n : new int[] {0, -1, 4, 5, 65537, Integer.MAX_VALUE, Integer.MIN_VALUE}) {
                x.no("at " + m + " " + n + " 0 0", 2);
            }
        }
        // k: as many as count() tells, or less than none
        long[][] counts = {{0, 33, 0}, {0, 4294967296L, 0}, {0, 0, 0}, {0, 0, 0}};
        for (int m = 0; m < MACHINES; m++) {
            for (int n = 1; n <= 3; n++) {
                long all = counts[m][n - 1];
                for (long k : new long[] {-1, all, all + 1, 1L << 48, 1L << 48 | 1, (1L << 32) + all, 1L << 62,
                    Long.MAX_VALUE, Long.MIN_VALUE, -all - 1, -(1L << 32)}) {
                    x.no("at " + m + " " + n + " " + k + " 0", 1);
                }
            }
        }
        // i: n letters and no more
        x.none("at 0 2 0 #", 2, 1);
        x.none("at 0 2 32 #", 2, 1);
        x.none("at 1 2 4294967295 #", 2, 1);
        Bench y = Bench.of("machine 1;end 0;edge 0 0 any");
        for (int n = 1; n <= 3; n++) {
            y.none("at 0 " + n + " 0 #", n, 1);
            y.no("at 0 " + n + " " + (1L << 16 * n) + " 0", 1);
            y.no("at 0 " + n + " " + (1L << 16 * n) + " " + (n - 1), 1);
        }
        // m is looked at ahead of n, n ahead of k and i
        x.none("at # 0 0 0", MACHINES, 1);
        x.none("at # 4 -1 -1", MACHINES, 1);
        x.no("at 0 -1 -1 -1", 2);
        x.no("at 0 4 " + Long.MAX_VALUE + " 9", 2);
        x.no("at 0 0 0 0", 2);
    }

    /** 39: how many LETTERS the longest WORD that is TAKEN has; -2 if none is TAKEN, -3 if none is the longest. */
    private static void longest() {
        Bench x = Bench.of(TEXT);
        x.yes("longest 0", 2);
        x.yes("longest 1", -3);
        x.yes("longest 2", 0);
        x.yes("longest 3", -2);
        // a ring that no end is behind, or that no letter goes round, makes none
        Bench y = Bench.of("machine 3;edge 0 1 [1];end 1;edge 0 2 [2];edge 2 2 any;"
                + "machine 3;free 0 1;free 1 0;edge 1 2 [9];end 2;"
                + "machine 4;edge 0 1 any;edge 1 2 any;edge 2 3 any;edge 3 3 any-any;end 3;end 0;"
                + "machine 2;edge 0 0 [4];edge 0 1 [5];end 1");
        y.yes("longest 0", 1);
        y.yes("longest 1", 1);
        y.yes("longest 2", 3);
        y.yes("longest 3", -3);
        // no END; one that can't be reached; a ring that can't be; a ring of one letter
        Bench w = Bench.of("machine 2;edge 0 1 any;edge 1 0 any;machine 2;edge 0 0 any;end 1;"
                + "machine 2;edge 1 1 any;end 0;end 1;machine 1;edge 0 0 [65535];end 0");
        w.yes("longest 0", -2);
        w.yes("longest 1", -2);
        w.yes("longest 2", 0);
        w.yes("longest 3", -3);
        StringBuilder text = new StringBuilder("machine 12;end 11");
        for (int i = 0; i < 11; i++) {
            text.append(";edge ").append(i).append(' ').append(i + 1).append(" any");
        }
        Bench z = Bench.of(text.toString() + ";machine 4;edge 0 1 [1];edge 1 2 [1];edge 2 3 [1];end 3");
        z.yes("longest 0", 11);
        z.yes("behind 0 0", 2);
        z.yes("longest 2", 22);
        z.yes("behind 2 0", 3);
        z.yes("behind 3 1", 4);
        z.yes("longest 4", 36);
    }

    /** No MACHINES: 0 is none such, whatever THE WORD is. */
    private static void withoutMachines() {
        Bench x = new Bench();
        for (int n = 0; n <= 4; n += 4) {
            x.yes("word " + n + " 1 2 3 4", n);
            for (String call : new String[] {"taken 0", "leads 0", "classOf 0", "place 0", "count 0 0", "count 0 4",
                "at 0 1 0 0", "at 0 0 0 0", "longest 0"}) {
                x.no(call, 1);
            }
        }
    }
}
