/** Promises 1 to 5: a new object, the tape, the text and its faults. */
public final class TextTest {
    public static void main(String[] args) {
        newObject();
        tape();
        numbers();
        stays();
        tokens();
        form();
        untold();
        twice();
        bounds();
        many();
        manyRanges();
        deep();
        lacks();
        wide();
        order();
        bodies();
        Bench.end();
    }

    private static void newObject() {
        Bench x = new Bench();
        for (int what = 0; what <= 4; what++) {
            x.plain("total " + what, 0);
        }
        x.plain("fault", 0);
        x.plain("where", -1);
        x.plain("trouble", 0);
        x.no("size 0 0", 1);
        x.no("ranges 0", 1);
        x.no("letter 0", 1);
        x.no("drop", 1);
        x.lacks("twin 0");
    }

    private static void tape() {
        Bench x = new Bench();
        for (int n = 20; n <= 900; n += 20) {
            x.plain("feed 0 0 0 0 0", n);
        }
        x.plain("feed 0 0 0 0 0", -1);
        x.plain("total 4", 900);
        x.no("bench 901", 2);
        x.no("bench -1", 2);
        x.plain("total 4", 900);
        x.no("bench 900", 4);
        x.plain("total 4", 0);
        // the highest byte first: "mach" is 0x6d616368
        Bench y = new Bench();
        y.plain("feed " + 0x6d616368 + " " + 0x696e6520 + " " + 0x373b656e + " " + 0x64203620 + " -1", 20);
        y.yes("bench 16", 1);
        y.yes("size 0 0", 7);
        y.yes("ends 0", 64);
        y.plain("feed 0 0 0 0 0", 20);
    }

    private static void numbers() {
        Bench x = new Bench();
        x.faulty("machine", 1, 7);
        x.no("bench 1", 2);
        // the fault of the latest bench() not refused by 2; its place only right behind one refused by 4
        x.plain("fault", 1);
        x.plain("where", -1);
        x.faulty("machine 13", 4, 8);
        x.plain("feed 0 0 0 0 0", 20);
        x.lacks("twin 0");
        x.plain("total 9", -1);
        x.plain("where", 8);
        x.yes("word 0 0 0 0 0", 0);
        x.plain("where", -1);
        x.plain("fault", 4);
        x.no("bench 21", 2);
        x.no("bench " + Integer.MIN_VALUE, 2);
        x.no("bench " + Integer.MAX_VALUE, 2);
        x.plain("fault", 4);
        x.no("bench 0", 4);
        x.plain("fault", 1);
        x.plain("where", 0);
    }

    /** The bench stays with a fault; with none all is new but the word. */
    private static void stays() {
        Bench x = Bench.of("set a [1..2];machine 3;end 2;machine 2");
        x.yes("word 2 5 6 0 0", 2);
        x.yes("sure 0", 2);
        x.faulty("set b any;machine 1;end 1", 2, 24);
        x.yes("letters 0", 2);
        x.yes("size 0 0", 3);
        x.yes("size 1 0", 2);
        x.yes("size 2 0", 2);
        x.plain("total 1", 2);
        x.fine("machine 5", 1);
        x.plain("total 0", 0);
        x.plain("total 1", 1);
        x.plain("total 2", 1);
        x.plain("total 3", 2);
        x.yes("letter 1", 6);
        x.no("ranges 0", 1);
        x.yes("size 0 0", 5);
        x.no("size 1 0", 1);
        x.no("drop", 1);
    }

    private static void tokens() {
        Bench x = new Bench();
        x.fine(" machine1;  end0 ;free 0 0", 1);
        x.fine("set abcdefg[00012];machine 1;edge 0 0abcdefg", 1);
        x.yes("range 0 0 false", 12);
        x.fine("set setx any;set endany[1 .. 2 , 3];machine 00012", 1);
        x.yes("letters 1", 3);
        x.faulty("set abcdefgh any;machine 1", 1, 4);
        x.faulty("mach ine 1", 1, 0);
        x.faulty("machine 000001", 1, 8);
        x.faulty("machine 1\t", 1, 9);
        x.faulty("machine 1\n;end 0", 1, 9);
        x.faulty("machine 1;\u00e9", 1, 10);
        x.faulty("machine 1\u0000", 1, 9);
        x.faulty("Machine 1", 1, 0);
        x.faulty("set a [1. .2];machine 1", 1, 8);
        x.faulty("set a [1...2];machine 1", 1, 10);
        x.faulty("set a [1....2];machine 1", 1, 10);
        x.faulty("set a [1.2];machine 1", 1, 8);
        x.faulty("set a any{};machine 1", 1, 9);
    }

    private static void form() {
        Bench x = new Bench();
        x.faulty("", 1, 0);
        x.faulty("   ", 1, 3);
        x.faulty("machine 1;", 1, 10);
        x.faulty("machine 1; ", 1, 11);
        x.faulty(";machine 1", 1, 0);
        x.faulty("machine 1;;end 0", 1, 10);
        x.faulty("machine 1 end 0", 1, 10);
        x.faulty("machine a", 1, 8);
        x.faulty("foo 1", 1, 0);
        x.faulty("any", 1, 0);
        x.faulty("1", 1, 0);
        x.faulty("set", 1, 3);
        x.faulty("set a", 1, 5);
        x.faulty("set 1 any", 1, 4);
        for (String word : new String[] {"set", "machine", "edge", "free", "end", "any"}) {
            x.faulty("set " + word + " any", 1, 4);
        }
        for (String word : new String[] {"set", "machine", "edge", "free", "end"}) {
            x.faulty("set a " + word, 1, 6);
        }
        x.faulty("set a |any", 1, 6);
        x.faulty("set a any|", 1, 10);
        x.faulty("set a any|;", 1, 10);
        x.faulty("set a any any", 1, 10);
        x.faulty("set a any)", 1, 9);
        x.faulty("set a (any", 1, 10);
        x.faulty("set a (any;machine 1", 1, 10);
        x.faulty("set a ()", 1, 7);
        x.faulty("set a []", 1, 7);
        x.faulty("set a [1,]", 1, 9);
        x.faulty("set a [1 2]", 1, 9);
        x.faulty("set a [1..]", 1, 10);
        x.faulty("set a [1..2..3]", 1, 11);
        x.faulty("set a [..2]", 1, 7);
        x.faulty("set a [any]", 1, 7);
        x.faulty("set a 5", 1, 6);
        x.faulty("set a !", 1, 7);
        x.faulty("set a any!", 1, 9);
        x.faulty("machine 2;edge 0", 1, 16);
        x.faulty("machine 2;edge 0 a", 1, 17);
        x.faulty("machine 2;edge 0 1", 1, 18);
        x.faulty("machine 2;free 0;end 1", 1, 16);
        x.faulty("machine 2;free 0 1 any", 1, 19);
        x.faulty("machine 2;end", 1, 13);
        x.faulty("machine 2;end 0 1", 1, 16);
    }

    private static void untold() {
        Bench x = new Bench();
        x.faulty("set a a", 2, 6);
        x.faulty("set a b;set b any", 2, 6);
        x.faulty("machine 1;edge 0 0 a;set a any", 2, 19);
        x.faulty("machine 2;edge 2 0 any", 2, 15);
        x.faulty("machine 2;edge 0 2 any", 2, 17);
        x.faulty("machine 2;free 99999 0", 2, 15);
        x.faulty("machine 2;free 1 2", 2, 17);
        x.faulty("machine 2;end 2", 2, 14);
        // of the latest machine
        x.faulty("machine 3;machine 2;end 2", 2, 24);
        x.fine("machine 2;machine 3;end 2", 2);
    }

    private static void twice() {
        Bench x = new Bench();
        x.faulty("set a any;set b any;set a", 3, 24);
        x.faulty("machine 2;end 1;end 0;end 1", 3, 26);
        x.fine("machine 2;end 1;machine 2;end 1", 2);
        x.fine("machine 1;free 0 0;free 0 0;edge 0 0 any;edge 0 0 any", 1);
    }

    private static void bounds() {
        Bench x = new Bench();
        x.faulty("machine 0", 4, 8);
        x.faulty("machine 13", 4, 8);
        x.fine("machine 12", 1);
        x.faulty("set a [65536]", 4, 7);
        x.faulty("set a [0..65536]", 4, 10);
        x.faulty("set a [99999..1]", 4, 7);
        x.faulty("set a [6..5]", 4, 10);
        x.faulty("set a [1,6..5]", 4, 12);
        x.fine("set a [6..6];set b [0..65535];machine 1", 1);
        x.yes("letters 0", 1);
        x.yes("letters 1", 65536);
    }

    private static void many() {
        Bench x = new Bench();
        String sets = "";
        for (char c = 'a'; c < 'm'; c++) {
            sets += "set " + c + " any;";
        }
        x.fine(sets + "machine 1", 1);
        x.plain("total 0", 12);
        x.faulty(sets + " set", 5, sets.length() + 1);
        x.fine("machine 1;machine 1;machine 1;machine 1", 4);
        x.faulty("machine 1;machine 1;machine 1;machine 1;machine", 5, 40);
        String edges = "machine 1" + ";edge 0 0 any".repeat(24);
        x.fine(edges, 1);
        x.yes("size 0 1", 24);
        x.faulty(edges + ";edge 7", 5, edges.length() + 1);
        x.fine(edges + ";machine 1;edge 0 0 any", 2);
        String frees = "machine 1" + ";free 0 0".repeat(8);
        x.fine(frees, 1);
        x.yes("size 0 2", 8);
        x.faulty(frees + ";free 7", 5, frees.length() + 1);
        x.fine(frees + ";machine 1;free 0 0", 2);
    }

    private static void manyRanges() {
        Bench x = new Bench();
        x.fine("set a " + singles(24) + ";machine 1;edge 0 0 " + singles(24), 1);
        x.yes("ranges 0", 24);
        x.faulty("set a " + singles(25) + ";machine 1", 5, 6);
        x.faulty("set a  (" + singles(25) + ");machine 1", 5, 7);
        x.fine("set a !" + singles(24) + ";machine 1", 1);
        x.faulty("set a !" + from(1, 24) + ";machine 1", 5, 6);
        x.faulty("machine 1;edge 0 0 any&" + singles(25), 5, 19);
        // met when it ends: ahead of what comes behind it, behind what stands in it
        x.faulty("set a " + singles(25) + "]", 5, 6);
        x.faulty("set a " + singles(25) + " #", 5, 6);
        x.faulty("set a " + singles(25) + " any", 5, 6);
        x.faulty("set a " + singles(25), 5, 6);
        x.faulty("set a " + singles(25) + "|", 1, 7 + singles(25).length());
        x.faulty("set a " + singles(25) + "|b", 2, 7 + singles(25).length());
        x.faulty("set a (" + singles(25) + "]", 1, 7 + singles(25).length());
        // a part of a body may have more
        x.fine("set a " + singles(25) + "&[0..9]|[1];machine 1", 1);
        x.yes("ranges 0", 4);
        x.yes("letters 0", 6);
    }

    private static String singles(int n) {
        StringBuilder text = new StringBuilder("[");
        for (int i = 0; i < n; i++) {
            text.append(i == 0 ? "" : ",").append(2 * i);
        }
        return text.append(']').toString();
    }

    private static void deep() {
        Bench x = new Bench();
        x.fine("set a " + "!".repeat(12) + "[1];machine 1", 1);
        x.yes("letters 0", 1);
        x.fine("set a " + "!".repeat(11) + "[1];machine 1", 1);
        x.yes("letters 0", 65535);
        x.fine("set a " + "(".repeat(12) + "[1]" + ")".repeat(12) + ";machine 1", 1);
        x.faulty("set a " + "!".repeat(13) + "[1];machine 1", 6, 18);
        x.faulty("set a " + "(".repeat(13) + "[1]", 6, 18);
        x.faulty("set a " + "!(".repeat(6) + "!any", 6, 18);
        x.faulty("set a " + "(!".repeat(6) + "(any", 6, 18);
        // a ! is open till its part ends
        x.fine("set a " + "!".repeat(12) + "[1]|" + "!".repeat(12) + "[2];machine 1", 1);
        x.yes("letters 0", 2);
        x.fine("set a !(" + "!".repeat(10) + "[1]&" + "!".repeat(10) + "[1..2]);machine 1", 1);
        x.yes("letters 0", 65535);
        x.faulty("set a !(" + "!".repeat(10) + "[1]&" + "!".repeat(11) + "[1..2]);machine 1", 6, 32);
        x.faulty("set a !!!(any)-" + "!".repeat(13) + "any", 6, 27);
    }

    private static void lacks() {
        Bench x = new Bench();
        x.faulty("edge 0 0 any;machine 1", 7, 0);
        x.faulty(" free", 7, 1);
        x.faulty("set a any;end 0;machine 1", 7, 10);
        x.faulty("set a any", 7, 9);
        x.faulty("set a any  ", 7, 11);
    }

    private static void wide() {
        Bench x = new Bench();
        // 63 ranges apart from one another and from both ends: 127 blocks; each more of them two more
        String three = "machine 1;edge 0 0 " + from(1, 21) + ";edge 0 0 " + from(43, 21) + ";edge 0 0 ";
        x.fine(three + from(85, 21), 1);
        x.yes("size 0 5", 127);
        x.fine(three + from(85, 21) + ";edge 0 0 [65535]", 1);
        x.yes("size 0 5", 128);
        x.faulty(three + from(85, 22) + ";end 0", 8, three.length() + from(85, 22).length() + 6);
        x.faulty("machine 1;" + three + from(85, 22) + ";machine 2;end 0 ", 8,
                three.length() + from(85, 22).length() + 27);
        // a fault of another sort is met ahead of the end
        x.faulty(three + from(85, 22) + ";end 1", 2, three.length() + from(85, 22).length() + 5);
        String chain = ";edge 0 0 any;edge 0 1 [1];edge 1 2 any;edge 2 3 any;edge 3 4 any;edge 4 5 any";
        x.fine("machine 6" + chain, 1);
        x.yes("size 0 4", 32);
        x.faulty("machine 7" + chain + ";edge 5 6 any", 8, 9 + chain.length() + 13);
        // six states ahead of the 32 sheaves, one without states, one of two states: 40
        String long40 = "machine 12;edge 0 1 [0..8];edge 1 2 any;edge 2 3 any;edge 3 4 any;edge 4 5 any;edge 5 6 any;"
                + "edge 6 6 any;edge 6 7 [1];edge 7 8 any;edge 8 9 any;edge 9 10 any;edge 10 11 any;edge 4 6 [2]";
        x.fine(long40, 1);
        x.yes("size 0 4", 40);
        x.faulty(long40 + ";edge 3 5 [2]", 8, long40.length() + 13);
    }

    /** Ranges of one letter, with one letter between. */
    private static String from(int least, int n) {
        StringBuilder text = new StringBuilder("[");
        for (int i = 0; i < n; i++) {
            text.append(i == 0 ? "" : ",").append(least + 2 * i);
        }
        return text.append(']').toString();
    }

    /** Of more faults that from the left. */
    private static void order() {
        Bench x = new Bench();
        x.faulty("set a b;set c [9..1];#", 2, 6);
        x.faulty("set a [9..1];set c b;#", 4, 10);
        x.faulty("set a [9#..1]", 1, 8);
        x.faulty("end 0;#", 7, 0);
        x.faulty("set a any;set a b", 3, 14);
        x.faulty("machine 0;#", 4, 8);
        x.faulty("machine 1;end 0;end 0;machine 0", 3, 20);
        x.faulty("set a any;", 1, 10);
    }

    private static void bodies() {
        Bench x = new Bench();
        // | binds least; & and - from the left; ! most
        x.fine("set a [1]|[2]&[3];set b [1..9]-[2]&[2..3];set c [1..9]-([2]&[2..3]);set d ![1]&[1..3];"
                + "set e [1..9]-[3]-[4]|[4];set f !([1]|[2])&[0..4];set g !!a;set h any-any;set i [5,1..2,3];"
                + "set j [7..9,8..12,1];set k a|c&b;machine 1", 1);
        x.yes("letters 0", 1);
        x.yes("letters 1", 1);
        x.yes("range 1 0 false", 3);
        x.yes("letters 2", 8);
        x.yes("letters 3", 2);
        x.yes("range 3 0 false", 2);
        x.yes("letters 4", 8);
        x.yes("ranges 4", 2);
        x.yes("range 4 1 false", 4);
        x.yes("letters 5", 3);
        x.yes("range 5 0 true", 0);
        x.yes("range 5 1 false", 3);
        x.yes("mixed 0 6 6", 0);
        x.yes("letters 7", 0);
        x.yes("ranges 7", 0);
        x.yes("ranges 8", 2);
        x.yes("range 8 0 true", 3);
        x.yes("ranges 9", 2);
        x.yes("range 9 1 true", 12);
        x.yes("letters 10", 2);
    }
}
