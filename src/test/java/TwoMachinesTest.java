/** Promises 40 to 43 and 55: first words of which a function is true, same, within, twin. */
public final class TwoMachinesTest {
    /** Machine 0: letters 1 or 2, then 3; machine 1: letter 2, then 3..4; machine 2: like 0, other states; 3: none. */
    private static final String TEXT = "machine 3;edge 0 1 [1..2];edge 1 2 [3];end 2;"
            + "machine 3;edge 0 1 [2];edge 1 2 [3..4];end 2;"
            + "machine 4;edge 0 1 [1];edge 0 2 [2];edge 1 3 [3];edge 2 3 [3];end 3;machine 1";

    public static void main(String[] args) {
        found();
        same();
        twin();
        longWords();
        wrong();
        Bench.end();
    }

    private static void found() {
        Bench x = Bench.of(TEXT);
        x.yes("found 0 1 0", -2);
        x.no("foundLetter 0 1 0 0", 1);
        x.word("found 0 1 1", "foundLetter 0 1 1");
        x.word("found 0 1 2", "foundLetter 0 1 2", 1, 3);
        x.word("found 1 0 2", "foundLetter 1 0 2", 2, 4);
        x.word("found 0 1 4", "foundLetter 0 1 4", 2, 4);
        x.word("found 0 1 8", "foundLetter 0 1 8", 2, 3);
        x.word("found 0 1 6", "foundLetter 0 1 6", 1, 3);
        x.word("found 0 1 14", "foundLetter 0 1 14", 1, 3);
        x.word("found 0 1 15", "foundLetter 0 1 15");
        x.word("found 3 3 9", "foundLetter 3 3 9");
        x.yes("found 0 2 6", -2);
        x.yes("found 3 3 8", -2);
        x.yes("found 3 0 2", -2);
        x.word("found 3 0 4", "foundLetter 3 0 4", 1, 3);
        x.no("found 0 1 16", 2);
        x.no("found 0 1 -1", 2);
        x.no("found 0 4 16", 1);
        x.no("found 4 0 0", 1);
        x.no("foundLetter 0 1 16 0", 2);
        x.no("foundLetter 0 1 -1 9", 2);
        x.no("foundLetter 0 4 16 0", 1);
        x.no("foundLetter -1 0 8 0", 1);
        x.no("foundLetter 0 1 8 2147483647", 1);
    }

    private static void same() {
        Bench x = Bench.of(TEXT);
        int[][] same = {{1, 0, 1, 0}, {0, 1, 0, 0}, {1, 0, 1, 0}, {0, 0, 0, 1}};
        int[][] within = {{1, 0, 1, 0}, {0, 1, 0, 0}, {1, 0, 1, 0}, {1, 1, 1, 1}};
        for (int a = 0; a < 4; a++) {
            for (int b = 0; b < 4; b++) {
                x.yes("same " + a + " " + b, same[a][b]);
                x.yes("within " + a + " " + b, within[a][b]);
            }
        }
        x.yes("join 0 1 8", 4);
        x.yes("within 4 0", 1);
        x.yes("within 4 1", 1);
        x.yes("within 0 4", 0);
    }

    private static void twin() {
        Bench x = Bench.of(TEXT);
        x.no("size 9 9", 1);
        x.plain("twin 2", 0);
        x.lacks("twin 0");
        x.lacks("twin 1");
        x.lacks("twin 3");
        x.lacks("twin 4");
        x.lacks("twin -1");
        x.lacks("twin 2147483647");
        x.lacks("twin -2147483648");
        x.yes("least 2", 4);
        x.yes("least 1", 5);
        x.plain("twin 4", 0);
        x.plain("twin 5", 1);
        x.yes("drop", 5);
        x.lacks("twin 5");
    }

    /** Lengths that 7 and 11 both divide: the first word that both take, but for the empty one, has 77 letters. */
    private static void longWords() {
        Bench x = Bench.of(ring(7) + ";" + ring(11) + ";machine 2;edge 0 1 any;edge 1 1 any;end 1");
        x.yes("found 0 1 8", 0);
        // the machine of pairs would have 77 states
        x.no("join 0 1 8", 3);
        x.yes("join 0 2 8", 3);
        x.yes("found 3 1 8", 77);
        for (int i = 0; i < 77; i += 19) {
            x.yes("foundLetter 3 1 8 " + i, 0);
        }
        x.no("foundLetter 3 1 8 77", 1);
    }

    private static String ring(int n) {
        StringBuilder text = new StringBuilder("machine ").append(n).append(";end 0");
        for (int i = 0; i < n; i++) {
            text.append(";edge ").append(i).append(' ').append((i + 1) % n).append(" any");
        }
        return text.toString();
    }

    private static void wrong() {
        Bench x = Bench.of(TEXT);
        for (String call : new String[] {"same 4 0", "same 0 4", "same -1 0", "within 4 0", "within 0 4", "within 0 -1"}) {
            x.no(call, 1);
        }
    }
}
