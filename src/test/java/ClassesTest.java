/** Promises 23 to 30: classes, their first words, the words that part them. */
public final class ClassesTest {
    /** Machine 0 takes words that end in 1 2; machine 1 two letters, the second 5; machine 2 all; machine 3 none. */
    private static final String TEXT = "machine 3;edge 0 0 any;edge 0 1 [1];edge 1 2 [2];end 2;"
            + "machine 3;edge 0 1 any;edge 1 2 [5];end 2;machine 1;edge 0 0 any;end 0;machine 2;edge 0 1 [7];edge 1 0 any";

    public static void main(String[] args) {
        go();
        takes();
        first();
        parting();
        likeWords();
        many();
        wrong();
        Bench.end();
    }

    /** Machine 0: 0 none of it; 1 ends in 1; 2 ends in 1 2. Machine 1: 0; 1 one letter; 2 dead; 3 taken. */
    private static void go() {
        Bench x = Bench.of(TEXT);
        x.yes("size 0 6", 3);
        x.yes("go 0 0 0", 0);
        x.yes("go 0 0 1", 1);
        x.yes("go 0 0 2", 0);
        x.yes("go 0 1 1", 1);
        x.yes("go 0 1 2", 2);
        x.yes("go 0 2 1", 1);
        x.yes("go 0 2 65535", 0);
        x.yes("size 1 6", 4);
        x.yes("go 1 0 65535", 1);
        x.yes("go 1 1 5", 3);
        x.yes("go 1 1 4", 2);
        x.yes("go 1 3 5", 2);
        x.yes("go 1 2 5", 2);
        x.yes("go 2 0 9", 0);
        x.yes("go 3 0 7", 0);
        x.no("go 0 0 -1", 2);
        x.no("go 0 0 65536", 2);
        x.no("go 0 3 65536", 1);
        x.no("go 0 -1 0", 1);
        x.no("go 4 0 0", 1);
    }

    private static void takes() {
        Bench x = Bench.of(TEXT);
        x.yes("takes 0 0", 0);
        x.yes("takes 0 2", 1);
        x.yes("takes 1 3", 1);
        x.yes("takes 1 2", 0);
        x.yes("takes 2 0", 1);
        x.yes("takes 3 0", 0);
        x.yes("dead 0", -2);
        x.yes("dead 1", 2);
        x.yes("dead 2", -2);
        x.yes("dead 3", 0);
        x.yes("size 3 6", 1);
    }

    private static void first() {
        Bench x = Bench.of(TEXT);
        x.word("first 0 0", "firstLetter 0 0");
        x.word("first 0 1", "firstLetter 0 1", 1);
        x.word("first 0 2", "firstLetter 0 2", 1, 2);
        x.word("first 1 1", "firstLetter 1 1", 0);
        x.word("first 1 2", "firstLetter 1 2", 0, 0);
        x.word("first 1 3", "firstLetter 1 3", 0, 5);
        x.word("first 2 0", "firstLetter 2 0");
    }

    private static void parting() {
        Bench x = Bench.of(TEXT);
        x.word("parting 0 0 1", "partingLetter 0 0 1", 2);
        x.word("parting 0 1 0", "partingLetter 0 1 0", 2);
        x.word("parting 0 1 2", "partingLetter 0 1 2");
        x.word("parting 1 0 1", "partingLetter 1 0 1", 5);
        x.word("parting 1 0 2", "partingLetter 1 0 2", 0, 5);
        x.word("parting 1 3 0", "partingLetter 1 3 0");
        x.yes("parting 0 1 1", -2);
        x.no("partingLetter 0 1 1 0", 1);
        x.yes("rounds 0", 1);
        x.yes("rounds 1", 2);
        x.yes("rounds 2", 0);
        x.yes("rounds 3", 0);
        // of shorter words the first: 9 2 parts 1 and 2 too, but 3 is less
        Bench y = Bench.of("machine 5;edge 0 1 [1];edge 0 2 [2];edge 1 3 [3,9];edge 2 3 [4];edge 3 4 [8];edge 4 3 [2];"
                + "end 4");
        // classes: 0; 0 dead; 1; 2; 1 3; 1 3 8
        y.yes("size 0 6", 6);
        y.word("first 0 5", "firstLetter 0 5", 1, 3, 8);
        y.word("parting 0 2 3", "partingLetter 0 2 3", 3, 8);
        y.word("parting 0 0 1", "partingLetter 0 0 1", 1, 3, 8);
        y.word("parting 0 0 3", "partingLetter 0 0 3", 4, 8);
        y.word("parting 0 4 1", "partingLetter 0 4 1", 8);
        y.yes("rounds 0", 3);
        y.yes("dead 0", 1);
    }

    /** States that take the same words behind them are one class, whatever blocks part their edges. */
    private static void likeWords() {
        Bench x = Bench.of("machine 4;edge 0 1 [1];edge 0 2 [2];edge 1 3 [5..9];edge 2 3 [5..7,8..9];edge 3 3 any;end 3;"
                + "machine 3;edge 0 1 [1];edge 0 2 [2];end 1;end 2;machine 2;edge 0 0 [5];edge 0 1 ![5];edge 1 0 any;"
                + "end 0;end 1");
        x.yes("size 0 4", 5);
        x.yes("size 0 6", 4);
        x.yes("go 0 0 1", 2);
        x.yes("go 0 0 2", 2);
        x.yes("size 1 4", 4);
        x.yes("size 1 6", 3);
        x.yes("rounds 1", 1);
        x.yes("size 2 6", 1);
        x.yes("dead 2", -2);
        x.yes("size 2 4", 2);
    }

    /** A chain of 12: classes by how much is left; words that part them have up to 11 letters. */
    private static void many() {
        StringBuilder text = new StringBuilder("machine 12;end 11");
        for (int i = 0; i < 11; i++) {
            text.append(";edge ").append(i).append(' ').append(i + 1).append(" [").append(i % 2).append(']');
        }
        Bench x = Bench.of(text.toString());
        // the dead class comes by the letter 1, behind class 1
        x.yes("size 0 6", 13);
        x.yes("dead 0", 2);
        x.yes("rounds 0", 11);
        x.word("parting 0 0 2", "partingLetter 0 0 2", 0, 1, 0, 1, 0, 1, 0, 1, 0, 1, 0);
        x.word("first 0 12", "firstLetter 0 12", 0, 1, 0, 1, 0, 1, 0, 1, 0, 1, 0);
    }

    private static void wrong() {
        Bench x = Bench.of(TEXT);
        for (String call : new String[] {"takes 4 0", "takes 0 3", "takes 0 -1", "dead 4", "dead -1", "first 4 0",
            "first 0 3", "first 0 -1", "firstLetter 4 0 0", "firstLetter 0 3 0", "firstLetter 0 -1 0",
            "firstLetter 0 0 0", "firstLetter 0 2 2147483647", "parting 4 0 0", "parting 0 3 0", "parting 0 0 3",
            "parting 0 -1 -1", "parting 0 3 3", "partingLetter 4 0 1 0", "partingLetter 0 3 0 0",
            "partingLetter 0 0 3 0", "partingLetter 0 0 0 0", "partingLetter 0 0 2 0", "rounds 4", "rounds -1"}) {
            x.no(call, 1);
        }
    }
}
