/** Promises 31 to 39: the word, what it leads to, how many words are taken and which. */
public final class WordsTest {
    /** Machine 0 takes 3..5 and then any of 10..19 or 65535; machine 1 words of even length; machine 2 only the empty one. */
    private static final String TEXT = "machine 3;edge 0 1 [3..5];edge 1 2 [10..19,65535];end 2;"
            + "machine 2;edge 0 1 any;edge 1 0 any;end 0;machine 1;end 0;machine 1;edge 0 0 any";

    public static void main(String[] args) {
        word();
        more();
        taken();
        place();
        count();
        at();
        longest();
        wrong();
        Bench.end();
    }

    private static void word() {
        Bench x = new Bench();
        x.yes("word 4 1 2 3 65535", 4);
        x.plain("total 3", 4);
        x.yes("letter 0", 1);
        x.yes("letter 3", 65535);
        x.no("letter 4", 1);
        x.no("letter -1", 1);
        // refused: it stays
        x.no("word 5 0 0 0 0", 2);
        x.no("word -1 0 0 0 0", 2);
        x.no("word 2147483647 0 0 0 0", 2);
        x.no("word 1 -1 0 0 0", 2);
        x.no("word 2 0 65536 0 0", 2);
        x.no("word 3 0 0 -1 0", 2);
        x.no("word 4 0 0 0 65536", 2);
        x.plain("total 3", 4);
        x.yes("letter 1", 2);
        // others than the first n may be anything
        x.yes("word 1 9 -1 65536 -5", 1);
        x.yes("letter 0", 9);
        x.no("letter 1", 1);
        x.yes("word 3 0 0 7 -1", 3);
        x.yes("letter 2", 7);
        x.yes("word 0 -1 -1 -1 -1", 0);
        x.plain("total 3", 0);
        x.no("letter 0", 1);
    }

    private static void more() {
        Bench x = new Bench();
        for (int n = 1; n <= 16; n++) {
            x.no("more -1", 2);
            x.no("more 65536", 2);
            x.yes("more " + (65536 - n), n);
        }
        x.no("more 0", 3);
        x.no("more 65536", 2);
        x.yes("letter 0", 65535);
        x.yes("letter 15", 65520);
        x.no("letter 16", 1);
        x.yes("word 2 1 2 0 0", 2);
        x.yes("more 3", 3);
        x.yes("letter 2", 3);
    }

    private static void taken() {
        Bench x = Bench.of(TEXT);
        x.yes("taken 0", 0);
        x.yes("leads 0", 1);
        x.yes("classOf 0", 0);
        x.yes("taken 1", 1);
        x.yes("taken 2", 1);
        x.yes("taken 3", 0);
        x.yes("word 1 4 0 0 0", 1);
        x.yes("taken 0", 0);
        x.yes("leads 0", 2);
        x.yes("classOf 0", 2);
        x.yes("taken 1", 0);
        x.yes("leads 2", 0);
        x.yes("taken 2", 0);
        x.yes("classOf 2", 1);
        x.yes("more 65535", 2);
        x.yes("taken 0", 1);
        x.yes("leads 0", 4);
        x.yes("classOf 0", 3);
        x.yes("taken 1", 1);
        x.yes("more 0", 3);
        x.yes("taken 0", 0);
        x.yes("leads 0", 0);
        x.yes("classOf 0", 1);
        x.yes("leads 1", 2);
        for (int n = 4; n <= 16; n++) {
            x.yes("more 0", n);
            x.yes("taken 1", n % 2 == 0 ? 1 : 0);
        }
    }

    private static void place() {
        Bench x = Bench.of(TEXT);
        x.yes("place 2", 0);
        x.yes("place 1", 0);
        x.yes("word 2 4 12 0 0", 2);
        x.yes("place 0", 13);
        x.yes("word 2 4 9 0 0", 2);
        x.yes("place 0", 11);
        x.yes("word 2 3 65535 0 0", 2);
        x.yes("place 0", 10);
        x.yes("word 2 65535 65535 0 0", 2);
        x.yes("place 0", 33);
        x.yes("place 1", 4294967295L);
        x.yes("place 2", 0);
        x.yes("word 1 5 0 0 0", 1);
        x.yes("place 0", 0);
        x.yes("word 3 0 0 0 0", 3);
        x.yes("place 1", 0);
        x.yes("word 4 0 0 0 0", 4);
        x.no("place 0", 5);
        x.no("place 4", 1);
        Bench y = Bench.of("machine 2;end 1;edge 0 1 any;edge 1 1 any");
        y.yes("word 3 65535 65535 65535 0", 3);
        y.yes("place 0", 281474976710655L);
        y.yes("word 3 1 2 3 0", 3);
        y.yes("place 0", 65536L * 65536 + 2 * 65536 + 3);
    }

    private static void count() {
        Bench x = Bench.of(TEXT);
        long[][] due = {{0, 0, 33, 0}, {1, 0, 4294967296L, 0}, {1, 0, 0, 0}, {0, 0, 0, 0}};
        for (int m = 0; m < 4; m++) {
            for (int n = 0; n < 4; n++) {
                x.yes("count " + m + " " + n, due[m][n]);
            }
            x.no("count " + m + " 4", 2);
            x.no("count " + m + " -1", 2);
        }
        x.no("count 4 4", 1);
        x.no("count -1 0", 1);
        // words are counted once, however many ways lead to an end
        Bench y = Bench.of("machine 2;edge 0 1 [1..9];edge 0 1 [5..20];edge 0 0 [7];end 1;end 0");
        y.yes("count 0 0", 1);
        y.yes("count 0 1", 20);
        y.yes("count 0 2", 20);
        y.yes("count 0 3", 20);
    }

    private static void at() {
        Bench x = Bench.of(TEXT);
        int k = 0;
        for (int a = 3; a <= 5; a++) {
            for (int b = 10; b <= 20; b++) {
                x.yes("at 0 2 " + k + " 0", a);
                x.yes("at 0 2 " + k + " 1", b == 20 ? 65535 : b);
                k++;
            }
        }
        x.no("at 0 2 33 0", 1);
        x.no("at 0 2 -1 0", 1);
        x.no("at 0 2 0 2", 1);
        x.no("at 0 2 0 -1", 1);
        x.no("at 0 1 0 0", 1);
        x.no("at 0 3 0 0", 1);
        x.no("at 0 0 0 0", 2);
        x.no("at 0 4 0 0", 2);
        x.no("at 0 -1 -1 -1", 2);
        x.no("at 4 0 0 0", 1);
        x.no("at 0 2 " + Long.MAX_VALUE + " 0", 1);
        x.no("at 0 2 " + Long.MIN_VALUE + " 0", 1);
        x.yes("at 1 2 4294967295 0", 65535);
        x.yes("at 1 2 65537 0", 1);
        x.yes("at 1 2 65537 1", 1);
        x.no("at 1 2 4294967296 0", 1);
        x.no("at 1 1 0 0", 1);
        Bench y = Bench.of("machine 1;end 0;edge 0 0 any");
        long far = (12345L * 65536 + 54321) * 65536 + 999;
        y.yes("at 0 3 " + far + " 0", 12345);
        y.yes("at 0 3 " + far + " 1", 54321);
        y.yes("at 0 3 " + far + " 2", 999);
        y.no("at 0 3 281474976710656 2", 1);
    }

    private static void longest() {
        Bench x = Bench.of(TEXT);
        x.yes("longest 0", 2);
        x.yes("longest 1", -3);
        x.yes("longest 2", 0);
        x.yes("longest 3", -2);
        // a ring that no end is behind, or that no letter goes round, makes none
        Bench y = Bench.of("machine 3;edge 0 1 [1];end 1;edge 0 2 [2];edge 2 2 any;"
                + "machine 3;free 0 1;free 1 0;edge 1 2 [9];end 2;"
                + "machine 4;edge 0 1 any;edge 1 2 any;edge 2 3 any;edge 3 3 any-any;end 3;end 0;"
                + "machine 2;edge 0 0 [4];edge 0 1 [5];end 1");
        y.yes("longest 0", 1);
        y.yes("longest 1", 1);
        y.yes("longest 2", 3);
        y.yes("longest 3", -3);
        StringBuilder text = new StringBuilder("machine 12;end 11");
        for (int i = 0; i < 11; i++) {
            text.append(";edge ").append(i).append(' ').append(i + 1).append(" any");
        }
        Bench z = Bench.of(text.toString());
        z.yes("longest 0", 11);
        z.yes("behind 0 0", 1);
        z.yes("longest 1", 22);
    }

    private static void wrong() {
        Bench x = Bench.of(TEXT);
        for (String call : new String[] {"taken 4", "taken -1", "leads 4", "leads -1", "classOf 4", "classOf -1",
            "place 4", "place -1", "longest 4", "longest -1", "at -1 2 0 0"}) {
            x.no(call, 1);
        }
    }
}
