/** Promises 1 to 5 and the text of a bench (Terms, II): the tape, tokens, lines, bodies, faults and their places. */
public final class TextTest {
    private static final String[] WORDS = {"set", "machine", "edge", "free", "end", "any"};

    public static void main(String[] args) {
        newObject();
        feed();
        fullTape();
        benchOfTooMany();
        benchOfSome();
        benchStays();
        benchIsNew();
        fault();
        where();
        tokens();
        words();
        wholes();
        dots();
        otherBytes();
        lines();
        sets();
        machines();
        edges();
        bodies();
        ranges();
        untold();
        twice();
        bounds();
        many();
        manyRanges();
        deep();
        lacks();
        wide();
        order();
        leftovers();
        Bench.end();
    }

    /** A fault in a text told to an object that has something of all sorts. */
    private static void faulty(String text, int fault, int place) {
        Bench.full().faulty(text, fault, place);
    }

    private static void fine(String text, int machines) {
        Bench.full().fine(text, machines);
    }

    /** 1: no SETS, no MACHINES; THE WORD has no LETTERS. */
    private static void newObject() {
        Bench x = new Bench();
        for (int what = 0; what <= 4; what++) {
            x.still("total " + what, 0);
        }
        x.still("fault", 0);
        x.still("where", -1);
        x.still("trouble", 0);
        x.no("ranges 0", 1);
        x.no("size 0 0", 1);
        x.no("taken 0", 1);
        x.no("place 0", 1);
        x.no("letter 0", 1);
        x.no("least 0", 1);
        x.no("drop", 1);
        x.lacks("twin 0");
        x.yes("more 7", 1);
    }

    /** 2: twenty bytes come behind THE TAPE, of each number the highest first: how many it has. */
    private static void feed() {
        Bench x = Bench.full();
        // "machine 7;end 6", in one call, "mach" is 0x6d616368; the bytes behind it don't count
        x.plain("feed " + 0x6d616368 + " " + 0x696e6520 + " " + 0x373b656e + " " + 0x64203620 + " -1", 20);
        x.yes("bench 15", 1);
        x.yes("size 0 0", 7);
        x.yes("ends 0", 64);
        // all behind one another: "end 0" begins in the second call's first byte
        Bench y = Bench.full();
        y.plain("feed " + 0x6d616368 + " " + 0x696e6520 + " " + 0x373b656e + " " + 0x64203620 + " " + 0x2020203b, 20);
        y.plain("feed " + 0x656e6420 + " " + 0x30202020 + " " + 0x20202020 + " -1 -1", 40);
        y.yes("bench 32", 1);
        y.yes("ends 0", 65);
    }

    /** 2: NONE, and none comes, if there would be more than 900. */
    private static void fullTape() {
        Bench x = Bench.full();
        x.no("letter 9", 1);
        String last = "machine 5;end 4";
        for (String call : Subject.feeds(Subject.bytesOf(" ".repeat(885) + last))) {
            x.ask(call);
        }
        x.still("total 4", 900);
        x.still("feed 1 2 3 4 5", -1);
        x.still("feed -1 -1 -1 -1 -1", -1);
        x.plain("total 4", 900);
        x.plain("trouble", 1);
        x.yes("bench 900", 1);
        x.yes("ends 0", 16);
        x.plain("total 4", 0);
        x.plain("feed 0 0 0 0 0", 20);
        // 900 are no more than 900: the call that brings the last twenty is not refused
        Bench y = new Bench();
        for (int n = 20; n <= 900; n += 20) {
            y.plain("feed 0 0 0 0 0", n);
        }
        y.still("feed 0 0 0 0 0", -1);
        // 900 bytes of text, and as many tokens as there can be
        fine("machine 1;edge 0 0[" + "7,".repeat(439) + "7 ]", 1);
        faulty("machine 1;edge 0 0[" + "7,".repeat(440) + "7", 1, 900);
        faulty(";".repeat(900), 1, 0);
        faulty("machine 1" + " ".repeat(890) + "#", 1, 899);
        faulty("machine 1" + ";end 0".repeat(148), 3, 20);
        faulty(" ".repeat(892) + "machine ", 1, 900);
    }

    /** 3: NONE: 2 (THE TAPE stays). */
    private static void benchOfTooMany() {
        Bench x = Bench.full();
        x.none("bench #", 1, 2);
        x.plain("total 4", 0);
        x.feed(Subject.bytesOf("machine 7;end 6"));
        x.none("bench #", 21, 2);
        x.plain("total 4", 20);
        x.yes("bench 20", 1);
        x.yes("ends 0", 64);
        Bench y = Bench.full();
        for (int n = 20; n <= 900; n += 20) {
            y.plain("feed 538976288 538976288 538976288 538976288 538976288", n);
        }
        y.none("bench #", 901, 2);
        y.faulty(900, 1, 900, "blanks");
    }

    /** 3: the first n bytes of THE TAPE (it is empty then): what comes behind them is no more. */
    private static void benchOfSome() {
        Bench x = Bench.full();
        x.feed(Subject.bytesOf("machine 12;end 6;#"));
        x.yes("bench 9", 1);
        x.yes("size 0 0", 1);
        x.plain("total 4", 0);
        x.no("bench 1", 2);
        x.faulty(0, 1, 0, "nothing");
        // n 0 of a full tape: the end is at 0, and the tape is empty
        x.feed(Subject.bytesOf("machine 1"));
        x.faulty(0, 1, 0, "none of twenty");
        x.no("bench 9", 2);
        x.feed(Subject.bytesOf("machine 1"));
        x.faulty(8, 1, 8, "machine ");
        x.feed(Subject.bytesOf("machine 1"));
        x.yes("bench 9", 1);
    }

    /** 3: NONE: 4 (the BENCH stays), what was MADE and THE WORD, too. */
    private static void benchStays() {
        Bench x = Bench.full();
        x.faulty("set b any;machine 1;end 1", 2, 24);
        x.yes("letters 0", 6);
        x.yes("size 0 0", 3);
        x.yes("size 1 0", 1);
        x.yes("size 3 0", 5);
        x.plain("total 0", 3);
        x.plain("total 1", 3);
        x.plain("total 2", 4);
        x.plain("total 3", 2);
        x.yes("least 0", 4);
        x.yes("same 3 4", 1);
        x.faulty("#", 1, 0);
        x.yes("drop", 4);
        // without a bench there is none behind a fault either
        Bench y = new Bench();
        y.faulty("machine 1;machine 2;#", 1, 20);
        y.no("size 0 0", 1);
    }

    /** 3: the BENCH from now on (what was MADE is no more; THE WORD stays): how many MACHINES. */
    private static void benchIsNew() {
        Bench x = Bench.full();
        x.yes("again 2", 4);
        x.fine("machine 5", 1);
        x.plain("total 0", 0);
        x.plain("total 3", 2);
        x.yes("letter 0", 1);
        x.yes("letter 1", 3);
        x.no("ranges 0", 1);
        x.yes("size 0 0", 5);
        x.no("size 1 0", 1);
        x.no("drop", 1);
        x.fine("machine 1;machine 2;machine 3;machine 4", 4);
        x.yes("size 3 0", 4);
        x.no("drop", 1);
    }

    /** 4: the FAULT of the latest bench() not refused by 2; 0 without one. */
    private static void fault() {
        Bench x = new Bench();
        x.still("fault", 0);
        x.no("bench 1", 2);
        x.still("fault", 0);
        x.faulty("machine", 1, 7);
        x.no("bench 1", 2);
        x.still("fault", 1);
        x.yes("word 0 0 0 0 0", 0);
        x.still("fault", 1);
        x.faulty("machine 13", 4, 8);
        x.no("more -1", 2);
        x.plain("feed 0 0 0 0 0", 20);
        x.no("bench 21", 2);
        x.no("bench -1", 2);
        x.still("fault", 4);
        x.faulty(20, 1, 0, "zeros");
        x.fine("machine 1", 1);
        x.no("bench 1", 2);
        x.still("fault", 0);
    }

    /** 5: its place, if the latest call that may be refused was by 4; NONE else. */
    private static void where() {
        Bench x = Bench.full();
        x.faulty("machine 13", 4, 8);
        // those that can't be refused by a number leave it
        x.plain("feed 0 0 0 0 0", 20);
        x.lacks("twin 0");
        x.plain("twin 3", 0);
        x.plain("total 9", -1);
        x.plain("total 0", 3);
        x.plain("fault", 4);
        x.plain("trouble", 4);
        x.still("where", 8);
        // any other call ends it, refused or not; a fault at 0 is one, too
        for (String call : new String[] {"ranges 0", "ranges 9", "size 0 0", "size 9 0", "dead 0", "dead 9", "word 0 0 0 0 0",
            "word 9 0 0 0 0", "taken 0", "taken 9", "same 0 0", "same 9 0", "sure 0", "sure 9", "drop", "letter 0",
            "letter 99", "bench 1"}) {
            Bench y = Bench.full();
            y.faulty("#", 1, 0);
            y.plain("where", 0);
            y.ask(call);
            y.still("where", -1);
            y.plain("fault", 1);
        }
        x.no("bench 21", 2);
        x.plain("where", -1);
        x.plain("fault", 4);
    }

    /** Blanks, 32, part TOKENS and mean nothing else. */
    private static void tokens() {
        fine(" machine1;  end0 ;free 0 0", 1);
        fine("machine    2   ;   edge 0    1 [  1  ..  2  ,  3  ]   ;end 1   ", 1);
        fine("set a[1]|[2]&any-!([3]);machine 1;edge 0 0a", 1);
        fine("machine 2;edge 0 1any;free 0 1", 1);
        faulty("mach ine 1", 1, 0);
        faulty("machine 1 2", 1, 10);
        faulty("machine 2;edge 01 any", 1, 18);
        faulty("set a [1. .2];machine 1", 1, 8);
        faulty("set a b c any;machine 1", 2, 6);
    }

    /** WORDS of 1 to 7 small letters that stand together. */
    private static void words() {
        fine("set a [1];set abcdefg[00012];set machinx a|abcdefg;machine 1;edge 0 0abcdefg", 1);
        faulty("set abcdefgh any;machine 1", 1, 4);
        faulty("set a any;machine 1;edge 0 0 abcdefgh", 1, 29);
        faulty("machines 1", 1, 0);
        faulty("machineend 1", 1, 0);
        faulty("machin 1", 1, 0);
        faulty("Machine 1", 1, 0);
        faulty("set a any;machine 1;edge 0 0 anyany", 2, 29);
        faulty("set aB any", 1, 5);
        // a word of another's beginning is another word
        fine("set s any;set se s;set sets se;set setsx sets;set anya [1];set edgef anya;set endx anya;machine 1", 1);
    }

    /** WHOLES of 1 to 5 digits that do. */
    private static void wholes() {
        fine("machine 1", 1);
        fine("machine 00012;end 00011", 1);
        fine("set a [00000..65535];machine 1", 1);
        faulty("machine 000001", 1, 8);
        faulty("set a [123456]", 1, 7);
        faulty("set a [0..000001]", 1, 10);
        faulty("machine 1;end 000000", 1, 14);
        faulty("machine 2;free 0 000001", 1, 17);
        faulty("machine -1", 1, 8);
    }

    /** Dots two by two from the left. */
    private static void dots() {
        fine("set a [1..2];machine 1", 1);
        faulty("set a [1.2];machine 1", 1, 8);
        faulty("set a [1...2];machine 1", 1, 10);
        faulty("set a [1....2];machine 1", 1, 10);
        faulty("set a [1.....2];machine 1", 1, 10);
        faulty("set a [1..", 1, 10);
        faulty("set a [1.", 1, 8);
        faulty("..", 1, 0);
        faulty(".", 1, 0);
    }

    /** Single ones of ; | & - ! ( ) [ ] , and no other byte: 0 .. 255 behind a whole LINE. */
    private static void otherBytes() {
        Bench x = Bench.full();
        for (int b = 0; b < 256; b++) {
            Bench y = x.copy();
            String text = "machine 1 " + (char) b;
            if (b == ' ') {
                y.fine(text, 1);
            } else {
                // of these ; alone goes on, and then the end is at 11
                y.faulty(text, 1, b == ';' ? 11 : 10);
            }
            // within a BODY those that begin no PART are at their place
            Bench z = x.copy();
            String part = "machine 1;edge 0 0 " + (char) b;
            boolean opens = b == '!' || b == '(' || b == '[' || b == ' ';
            boolean name = b >= 'a' && b <= 'z';
            z.faulty(part, name ? 2 : 1, opens ? 20 : 19);
        }
    }

    /** LINE {; LINE}. */
    private static void lines() {
        faulty("", 1, 0);
        faulty(" ", 1, 1);
        faulty("   ", 1, 3);
        faulty(";", 1, 0);
        faulty("machine 1;", 1, 10);
        faulty("machine 1; ", 1, 11);
        faulty(";machine 1", 1, 0);
        faulty("machine 1;;end 0", 1, 10);
        faulty("machine 1 end 0", 1, 10);
        faulty("machine 1,end 0", 1, 9);
        faulty("foo 1", 1, 0);
        faulty("any", 1, 0);
        faulty("1", 1, 0);
        faulty("machine 1;any", 1, 10);
        faulty("machine 1;abc", 1, 10);
        fine("machine 1;set a any", 1);
    }

    /** set NAME BODY (NAME: a WORD that is none of set, machine, edge, free, end, any). */
    private static void sets() {
        faulty("set", 1, 3);
        faulty("set ", 1, 4);
        faulty("set;", 1, 3);
        faulty("set a", 1, 5);
        faulty("set a;machine 1", 1, 5);
        faulty("set 1 any", 1, 4);
        faulty("set [1]", 1, 4);
        for (String word : WORDS) {
            faulty("set " + word + " any", 1, 4);
            if (!word.equals("any")) {
                faulty("set a " + word, 1, 6);
                faulty("set a any&" + word, 1, 10);
            }
        }
        faulty("set a any any", 1, 10);
        faulty("set a any b", 1, 10);
    }

    /** machine WHOLE. */
    private static void machines() {
        faulty("machine", 1, 7);
        faulty("machine;", 1, 7);
        faulty("machine a", 1, 8);
        faulty("machine [1]", 1, 8);
        faulty("machine 1 any", 1, 10);
        faulty("machine 1..2", 1, 9);
    }

    /** edge WHOLE WHOLE BODY, free WHOLE WHOLE, or end WHOLE. */
    private static void edges() {
        faulty("machine 2;edge", 1, 14);
        faulty("machine 2;edge any", 1, 15);
        faulty("machine 2;edge 0", 1, 16);
        faulty("machine 2;edge 0 a", 1, 17);
        faulty("machine 2;edge 0 any", 1, 17);
        faulty("machine 2;edge 0 1", 1, 18);
        faulty("machine 2;edge 0 1;end 1", 1, 18);
        faulty("machine 2;edge 0 1 1", 1, 19);
        faulty("machine 2;free", 1, 14);
        faulty("machine 2;free 0", 1, 16);
        faulty("machine 2;free 0;end 1", 1, 16);
        faulty("machine 2;free 0 any", 1, 17);
        faulty("machine 2;free 0 1 any", 1, 19);
        faulty("machine 2;end", 1, 13);
        faulty("machine 2;end a", 1, 14);
        faulty("machine 2;end 0 1", 1, 16);
    }

    /** BODY: MEET {| MEET}; MEET: PART {& PART, or - PART} (from the left); PART. */
    private static void bodies() {
        Bench x = Bench.full();
        // | binds least; & and - from the left; ! most
        x.fine("set a [1]|[2]&[3];set b [1..9]-[2]&[2..3];set c [1..9]-([2]&[2..3]);set d ![1]&[1..3];"
                + "set e [1..9]-[3]-[4]|[4];set f !([1]|[2])&[0..4];set g !!a;set h any-any;set i [5,1..2,3];"
                + "set j [7..9,8..12,1];set k a|c&b;set l !any|!(any-[65535]);machine 1", 1);
        int[][] due = {{1, 1, 1}, {1, 1, 3}, {8, 2, 1}, {2, 1, 2}, {8, 2, 1}, {3, 2, 0}, {1, 1, 1}, {0, 0, 0}, {4, 2, 1},
            {7, 2, 1}, {2, 2, 1}, {1, 1, 65535}};
        for (int s = 0; s < due.length; s++) {
            x.yes("letters " + s, due[s][0]);
            x.yes("ranges " + s, due[s][1]);
            if (due[s][1] > 0) {
                x.yes("range " + s + " 0 false", due[s][2]);
            } else {
                x.no("range " + s + " 0 false", 1);
            }
        }
        faulty("set a |any", 1, 6);
        faulty("set a any|", 1, 10);
        faulty("set a any|;", 1, 10);
        faulty("set a any||any", 1, 10);
        faulty("set a any&", 1, 10);
        faulty("set a any&-any", 1, 10);
        faulty("set a -any", 1, 6);
        faulty("set a any-;", 1, 10);
        faulty("set a any)", 1, 9);
        faulty("set a (any", 1, 10);
        faulty("set a (any;machine 1", 1, 10);
        faulty("set a (any))", 1, 11);
        faulty("set a ()", 1, 7);
        faulty("set a (any]", 1, 10);
        faulty("set a 5", 1, 6);
        faulty("set a !", 1, 7);
        faulty("set a !&any", 1, 7);
        faulty("set a any!", 1, 9);
        faulty("set a any(any)", 1, 9);
        faulty("set a any[1]", 1, 9);
    }

    /** [ RANGE {, RANGE} ]; RANGE: WHOLE, or WHOLE .. WHOLE. */
    private static void ranges() {
        faulty("set a [", 1, 7);
        faulty("set a []", 1, 7);
        faulty("set a [1", 1, 8);
        faulty("set a [1;", 1, 8);
        faulty("set a [1,]", 1, 9);
        faulty("set a [1,", 1, 9);
        faulty("set a [,1]", 1, 7);
        faulty("set a [1 2]", 1, 9);
        faulty("set a [1..]", 1, 10);
        faulty("set a [1..2..3]", 1, 11);
        faulty("set a [..2]", 1, 7);
        faulty("set a [any]", 1, 7);
        faulty("set a [[1]]", 1, 7);
        faulty("set a [(1)]", 1, 7);
        faulty("set a [1|2]", 1, 8);
        faulty("set a [1)", 1, 8);
        faulty("set a [!1]", 1, 7);
    }

    /** 2: a NAME that isn't told, a STATE that isn't there; at it. */
    private static void untold() {
        faulty("set a a", 2, 6);
        faulty("set a b;set b any", 2, 6);
        faulty("set a any;set b a-[1]|c", 2, 22);
        faulty("machine 1;edge 0 0 a;set a any", 2, 19);
        // of another bench: that of the object has low
        faulty("machine 1;edge 0 0 low", 2, 19);
        faulty("machine 2;edge 2 0 any", 2, 15);
        faulty("machine 2;edge 0 2 any", 2, 17);
        faulty("machine 2;edge 99999 0 any", 2, 15);
        faulty("machine 2;free 99999 0", 2, 15);
        faulty("machine 2;free 2 0", 2, 15);
        faulty("machine 2;free 1 2", 2, 17);
        faulty("machine 2;end 2", 2, 14);
        faulty("machine 12;end 12", 2, 15);
        faulty("machine 12;end 65536", 2, 15);
        fine("machine 12;end 11;edge 11 0 any;free 0 11", 1);
        // of the latest machine
        faulty("machine 3;machine 2;end 2", 2, 24);
        faulty("machine 3;machine 2;free 0 2", 2, 27);
        faulty("machine 3;machine 2;edge 2 0 any", 2, 25);
        fine("machine 2;machine 3;end 2", 2);
    }

    /** 3: a NAME, an END told already; at it. */
    private static void twice() {
        faulty("set a any;set b any;set a", 3, 24);
        faulty("set a any;set a any;machine 1", 3, 14);
        faulty("set a any;machine 1;set a any", 3, 24);
        faulty("machine 2;end 1;end 0;end 1", 3, 26);
        faulty("machine 1;end 0;end  00000", 3, 21);
        fine("machine 2;end 1;end 0;machine 2;end 1;end 0", 2);
        // edges and free steps may be told again; names of the bench before, too
        fine("machine 1;free 0 0;free 0 0;edge 0 0 any;edge 0 0 any", 1);
        fine("set low any;machine 1", 1);
    }

    /** 4: a WHOLE out of bounds (a STATE isn't), the second of a RANGE less than the first; at it. */
    private static void bounds() {
        faulty("machine 0", 4, 8);
        faulty("machine 00000;#", 4, 8);
        faulty("machine 13", 4, 8);
        faulty("machine 99999", 4, 8);
        fine("machine 1", 1);
        fine("machine 12", 1);
        faulty("set a [65536]", 4, 7);
        faulty("set a [99999]", 4, 7);
        faulty("set a [0..65536]", 4, 10);
        faulty("set a [65536..65537]", 4, 7);
        faulty("set a [99999..1]", 4, 7);
        faulty("set a [6..5]", 4, 10);
        faulty("set a [65535..0]", 4, 14);
        faulty("set a [1,6..5]", 4, 12);
        faulty("machine 1;edge 0 0 [1..0]", 4, 23);
        Bench x = Bench.full();
        x.fine("set a [6..6];set b [0..65535];set c [65535];set d [0];set e [65534..65535];machine 1", 1);
        int[] letters = {1, 65536, 1, 1, 2};
        for (int s = 0; s < letters.length; s++) {
            x.yes("letters " + s, letters[s]);
        }
        // a state is told by the same wholes, but out of bounds it is none that is there
        faulty("machine 1;end 65536", 2, 14);
    }

    /** 5: a LINE more of its sort than there is room for, at its first WORD: whatever comes behind it. */
    private static void many() {
        StringBuilder sets = new StringBuilder();
        for (char c = 'a'; c < 'm'; c++) {
            sets.append("set ").append(c).append(" any;");
        }
        Bench x = Bench.full();
        x.fine(sets + "machine 1", 1);
        x.plain("total 0", 12);
        x.yes("letters 11", 65536);
        faulty(sets + " set", 5, sets.length() + 1);
        faulty(sets + "set a any;machine 1", 5, sets.length());
        faulty(sets + "machine 1;set z #", 5, sets.length() + 10);
        fine("machine 1;machine 1;machine 1;machine 1", 4);
        faulty("machine 1;machine 1;machine 1;machine 1;machine", 5, 40);
        faulty("machine 1;machine 1;machine 1;machine 1;machine 0", 5, 40);
        StringBuilder edges = new StringBuilder("machine 1").append(";edge 0 0 any".repeat(24));
        Bench y = Bench.full();
        y.fine(edges.toString(), 1);
        y.yes("size 0 1", 24);
        faulty(edges + ";edge 7", 5, edges.length() + 1);
        faulty(edges + ";end 0; edge 0 0 any", 5, edges.length() + 8);
        fine(edges + ";machine 1;edge 0 0 any", 2);
        fine("machine 1;edge 0 0 any;" + edges, 2);
        String frees = "machine 1" + ";free 0 0".repeat(8);
        Bench z = Bench.full();
        z.fine(frees, 1);
        z.yes("size 0 2", 8);
        faulty(frees + ";free 7", 5, frees.length() + 1);
        faulty(frees + ";edge 0 0 any;free 0 0", 5, frees.length() + 14);
        fine(frees + ";machine 1;free 0 0", 2);
        // as many ends as states
        fine("machine 12;end 0;end 1;end 2;end 3;end 4;end 5;end 6;end 7;end 8;end 9;end 10;end 11", 1);
        // all at once
        fine("set a any;" + frees + ";edge 0 0 a".repeat(24) + ";end 0;machine 1;machine 1;machine 1", 4);
    }

    /** 5: the whole BODY of a LINE whose SET has more than 24 RANGES, at its first TOKEN (met when it ends). */
    private static void manyRanges() {
        Bench x = Bench.full();
        x.fine("set a " + Parts.singles(0, 24) + ";machine 1;edge 0 0 " + Parts.singles(0, 24), 1);
        x.yes("ranges 0", 24);
        x.yes("edge 0 0 2", 24);
        faulty("set a " + Parts.singles(0, 25) + ";machine 1", 5, 6);
        faulty("set a   " + Parts.singles(0, 25) + ";machine 1", 5, 8);
        faulty("set a  (" + Parts.singles(0, 25) + ");machine 1", 5, 7);
        faulty("set a [100]|" + Parts.singles(0, 24) + ";machine 1", 5, 6);
        // 0, 2 .. 46 leave 24 others, the last one to the end; 1, 3 .. 47 leave 25
        fine("set a !" + Parts.singles(0, 24) + ";machine 1", 1);
        faulty("set a !" + Parts.singles(1, 24) + ";machine 1", 5, 6);
        faulty("machine 1;edge 0 0 any&" + Parts.singles(0, 25), 5, 19);
        String half = "set a " + Parts.singles(0, 13) + ";set b ";
        faulty(half + "a|" + Parts.singles(100, 12) + ";machine 1", 5, half.length());
        // met when it ends: ahead of what comes behind it, behind what stands in it
        int end = 6 + Parts.singles(0, 25).length();
        faulty("set a " + Parts.singles(0, 25) + "]", 5, 6);
        faulty("set a " + Parts.singles(0, 25) + ")", 5, 6);
        faulty("set a " + Parts.singles(0, 25) + " #", 5, 6);
        faulty("set a " + Parts.singles(0, 25) + " any", 5, 6);
        faulty("set a " + Parts.singles(0, 25), 5, 6);
        faulty("set a " + Parts.singles(0, 25) + ";", 5, 6);
        faulty("set a " + Parts.singles(0, 25) + "|", 1, end + 1);
        faulty("set a " + Parts.singles(0, 25) + "|b", 2, end + 1);
        faulty("set a " + Parts.singles(0, 25) + "|[70000]", 4, end + 2);
        faulty("set a (" + Parts.singles(0, 25), 1, end + 1);
        faulty("set a (" + Parts.singles(0, 25) + "]", 1, end + 1);
        faulty("set b any;set b " + Parts.singles(0, 25), 3, 14);
        // a part of a body may have more; ranges that touch are one
        String most = Parts.singles(0, 25);
        x.fine("set a " + most + "&[0..9]|[1];set b " + most + "|[47];set c !!(" + most + ")-[0];machine 1", 1);
        x.yes("ranges 0", 4);
        x.yes("letters 0", 6);
        x.yes("ranges 1", 24);
        x.yes("ranges 2", 24);
    }

    /** 6: more than 12 ! and ( open; at it. (A ! is open till its PART ends.) */
    private static void deep() {
        Bench x = Bench.full();
        x.fine("set a " + "!".repeat(12) + "[1];set b " + "!".repeat(11) + "[1];set c " + "(".repeat(12) + "[1]"
                + ")".repeat(12) + ";set d " + "!(".repeat(6) + "[1]" + ")".repeat(6) + ";machine 1", 1);
        int[] letters = {1, 65535, 1, 1};
        for (int s = 0; s < letters.length; s++) {
            x.yes("letters " + s, letters[s]);
        }
        faulty("set a " + "!".repeat(13) + "[1];machine 1", 6, 18);
        faulty("set a " + "(".repeat(13) + "[1]", 6, 18);
        faulty("set a " + "(".repeat(14), 6, 18);
        faulty("set a " + "!(".repeat(6) + "!any", 6, 18);
        faulty("set a " + "(!".repeat(6) + "(any", 6, 18);
        faulty("machine 1;edge 0 0 " + "!".repeat(12) + " (any)", 6, 32);
        // each line begins anew; parts that have ended are no more open
        x.fine("set a " + "!".repeat(12) + "[1]|" + "!".repeat(12) + "[2];set b " + "!".repeat(12) + "[1];machine 1", 1);
        x.yes("letters 0", 2);
        x.fine("set a !(" + "!".repeat(10) + "[1]&" + "!".repeat(10) + "[1..2]);machine 1", 1);
        x.yes("letters 0", 65535);
        x.fine("set a " + "(".repeat(11) + "(any)&(any)|(any)" + ")".repeat(11) + "&" + "(".repeat(12) + "[1]"
                + ")".repeat(12) + ";machine 1", 1);
        x.yes("letters 0", 1);
        faulty("set a !(" + "!".repeat(10) + "[1]&" + "!".repeat(11) + "[1..2]);machine 1", 6, 32);
        faulty("set a !!!(any)-" + "!".repeat(13) + "any", 6, 27);
        faulty("set a " + "(".repeat(11) + "(any)&!(any)" + ")".repeat(11), 6, 24);
        // of one place the least number: with twelve open a ( that doesn't go on is FORM
        faulty("set a " + "(".repeat(12) + "[1](", 1, 21);
        faulty("set a " + "(".repeat(12) + "[1]!", 1, 21);
        faulty("set a " + "(".repeat(12) + "[!", 1, 19);
    }

    /** 7: an edge, free, end ahead of any machine; at its WORD; at the end: no machine. */
    private static void lacks() {
        faulty("edge 0 0 any;machine 1", 7, 0);
        faulty(" free", 7, 1);
        faulty("free 0 0;machine 1", 7, 0);
        faulty("end 0", 7, 0);
        faulty("edge", 7, 0);
        faulty("set a any;end 0;machine 1", 7, 10);
        faulty("set a any", 7, 9);
        faulty("set a any  ", 7, 11);
        faulty("set a any;set b a", 7, 17);
        // of one place the least number: the end of a text that can't end there is FORM
        faulty("set a any;", 1, 10);
        faulty("set a any&", 1, 10);
        faulty("set a", 1, 5);
    }

    /** 8: when all is told, some MACHINE has more than 128 BLOCKS or 40 SHEAVES: at the end. */
    private static void wide() {
        Bench x = Bench.full();
        // 63 ranges apart from one another and from both ends: 127 blocks; each more of them two more
        String three = "machine 1;edge 0 0 " + Parts.singles(1, 21) + ";edge 0 0 " + Parts.singles(43, 21) + ";edge 0 0 ";
        x.fine(three + Parts.singles(85, 21), 1);
        x.yes("size 0 5", 127);
        x.fine(three + Parts.singles(85, 21) + ";edge 0 0 [65535]", 1);
        x.yes("size 0 5", 128);
        int end = three.length() + Parts.singles(85, 22).length();
        faulty(three + Parts.singles(85, 22) + ";end 0", 8, end + 6);
        faulty(three + Parts.singles(85, 22), 8, end);
        faulty("machine 1;" + three + Parts.singles(85, 22) + ";machine 2;end 0 ", 8, end + 27);
        // far more than there is room for
        StringBuilder far = new StringBuilder("machine 2;end 1");
        for (int i = 0; i < 8; i++) {
            far.append(Parts.edge(i % 2, 1, Parts.singles(100 + 50 * i, 23)));
        }
        faulty(far.toString(), 8, far.length());
        // each machine has blocks of its own
        x.fine(three + Parts.singles(85, 21) + ";machine 1;edge 0 0 " + Parts.singles(1000, 24), 2);
        // a fault of another sort is met ahead of the end; at the end FORM is less
        faulty(three + Parts.singles(85, 22) + ";end 1", 2, end + 5);
        faulty(three + Parts.singles(85, 22) + ";end", 1, end + 4);
        faulty(three + Parts.singles(85, 22) + ";", 1, end + 1);
        String chain = ";edge 0 0 any;edge 0 1 [1];edge 1 2 any;edge 2 3 any;edge 3 4 any;edge 4 5 any";
        x.fine("machine 6" + chain, 1);
        x.yes("size 0 4", 32);
        faulty("machine 7" + chain + ";edge 5 6 any", 8, 9 + chain.length() + 13);
        faulty("machine 7" + chain + ";edge 5 6 any;machine 1 ", 8, 9 + chain.length() + 24);
        // six states ahead of the 32 sheaves, one without states, one of two states: 40
        String most = "machine 12;edge 0 1 [0..8];edge 1 2 any;edge 2 3 any;edge 3 4 any;edge 4 5 any;edge 5 6 any;"
                + "edge 6 6 any;edge 6 7 [1];edge 7 8 any;edge 8 9 any;edge 9 10 any;edge 10 11 any;edge 4 6 [2]";
        x.fine(most, 1);
        x.yes("size 0 4", 40);
        faulty(most + ";edge 3 5 [2]", 8, most.length() + 13);
    }

    /** FAULTS, the first that is met from the left. */
    private static void order() {
        faulty("set a b;set c [9..1];#", 2, 6);
        faulty("set a [9..1];set c b;#", 4, 10);
        faulty("set a [9#..1]", 1, 8);
        faulty("end 0;#", 7, 0);
        faulty("set a any;set a b", 3, 14);
        faulty("machine 0;#", 4, 8);
        faulty("machine 1;end 0;end 0;machine 0", 3, 20);
        faulty("machine 1;edge 1 1 #", 2, 15);
        faulty("machine 1;edge 0 # 1", 1, 17);
        faulty("set a " + "!".repeat(13) + "#", 6, 18);
        faulty("set a " + "!".repeat(5) + "#" + "!".repeat(13), 1, 11);
        faulty("# machine 1", 1, 0);
        // of one place the least number: a WORD that can't stand there is FORM, whether or not it lacks a machine or room
        faulty("set a any edge 0 0 any", 1, 10);
        faulty("set a any free 0 0", 1, 10);
        faulty("set a any end 0", 1, 10);
        faulty("machine 1;machine 1;machine 1;machine 1 machine 1", 1, 40);
        faulty("machine 1" + ";free 0 0".repeat(8) + " free 0 0", 1, 82);
        faulty("machine 1" + ";edge 0 0 any".repeat(24) + " edge 0 0 any", 1, 322);
        faulty("machine 1;end 0;edge 0 0 [9..8", 4, 29);
        faulty("set a any;set machine any", 1, 14);
    }

    /** What a text with a fault told is no more when the next one is read. */
    private static void leftovers() {
        Bench x = Bench.full();
        x.faulty("set a any;machine 12;edge 0 11 a;free 0 11;end 11;machine", 1, 57);
        x.faulty("machine 1;edge 0 0 a", 2, 19);
        x.faulty("end 0", 7, 0);
        x.faulty("set b any", 7, 9);
        x.fine("set a [1];machine 1;end 0", 1);
        x.yes("letters 0", 1);
        x.edges(0);
        x.frees(0);
        x.yes("ends 0", 1);
        x.faulty("set q " + "(".repeat(13), 6, 18);
        x.fine("set q " + "(".repeat(12) + "[1]" + ")".repeat(12) + ";machine 1", 1);
        x.faulty("machine 1;edge 0 0 " + Parts.singles(0, 25), 5, 19);
        x.fine("machine 2;edge 0 1 [1]", 1);
        x.edges(0, "0 1 1");
    }
}
