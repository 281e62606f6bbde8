/** Promises 44 to 54: what is made out of machines, which calls are refused by 1 or 2, and drop. */
public final class MadeTest {
    /** Machine 0: 1..5 and then 3..7, with a free step; machine 1: 8 or nothing; an edge without letters in it. */
    private static final String TEXT = "set s [2..3,9];set none [1]-any;machine 3;edge 0 1 [1..5];edge 1 2 [3..7];"
            + "free 1 0;end 2;machine 2;edge 0 1 [8];edge 1 1 [8]-[8];end 0;end 1";
    private static final int MACHINES = 2;
    private static final int SETS = 2;

    public static void main(String[] args) {
        sure();
        least();
        other();
        noSuchMachine();
        join();
        refusedJoin();
        behind();
        behindWithoutEnds();
        noSuchBehind();
        again();
        backwards();
        withoutEnds();
        only();
        noSuchOnly();
        moved();
        movedFar();
        refusedMoved();
        past();
        refusedPast();
        behindAllOthers();
        drop();
        noDrop();
        withoutMachines();
        Bench.end();
    }

    /** 44: STATES are m's SHEAVES. Those of machine 0: none {0}; 0 {}; 1 {0,1}; 1 3 {0,1,2}; 1 6 {2}. */
    private static void sure() {
        Bench x = Bench.of(TEXT);
        x.yes("sure 0", 2);
        x.plain("total 1", 2);
        x.plain("total 2", 3);
        x.yes("size 2 0", 5);
        x.frees(2);
        x.yes("ends 2", 24);
        x.edges(2, "0 1 0,6-65535", "0 2 1-5", "1 1 0-65535", "2 1 0,8-65535", "2 2 1-2", "2 3 3-5", "2 4 6-7",
                "3 1 0,8-65535", "3 2 1-2", "3 3 3-5", "3 4 6-7", "4 1 0-65535");
        x.yes("same 0 2", 1);
        x.yes("size 2 4", 5);
        x.yes("sheaf 2 3", 8);
        x.yes("size 2 5", 5);
        // like sheaves stay apart, blocks that nothing parts any more don't; without edges: all lead to that of no states
        Bench y = Bench.of("machine 3;edge 0 1 [1];edge 0 2 [2];end 1;end 2;machine 1;edge 0 0 [5];edge 0 0 any;end 0;"
                + "machine 1");
        y.yes("sure 0", 3);
        y.edges(3, "0 1 0,3-65535", "0 2 1", "0 3 2", "1 1 0-65535", "2 1 0-65535", "3 1 0-65535");
        y.yes("size 1 5", 3);
        y.yes("sure 1", 4);
        y.edges(4, "0 0 0-65535");
        y.yes("size 4 5", 1);
        y.yes("sure 2", 5);
        y.edges(5, "0 1 0-65535", "1 1 0-65535");
        y.yes("ends 5", 0);
    }

    /** 45: STATES are m's CLASSES. */
    private static void least() {
        Bench y = Bench.of("machine 3;edge 0 1 [1];edge 0 2 [2];end 1;end 2");
        y.yes("least 0", 1);
        y.yes("ends 1", 4);
        y.edges(1, "0 1 0,3-65535", "0 2 1-2", "1 1 0-65535", "2 1 0-65535");
        y.frees(1);
        y.yes("size 1 5", 3);
        y.yes("same 0 1", 1);
        // one class that is an END, one that is none
        Bench x = Bench.of("machine 1;machine 2;edge 0 1 any;edge 1 0 any;end 0;end 1");
        x.yes("least 1", 2);
        x.edges(2, "0 0 0-65535");
        x.yes("ends 2", 1);
        x.yes("least 0", 3);
        x.edges(3, "0 0 0-65535");
        x.yes("ends 3", 0);
        x.yes("size 3 0", 1);
    }

    /** 46: STATES are m's CLASSES; those that are no END are ENDS. */
    private static void other() {
        Bench y = Bench.of("machine 3;edge 0 1 [1];edge 0 2 [2];end 1;end 2;machine 1;"
                + "machine 2;edge 0 1 any;edge 1 0 any;end 0;end 1");
        y.yes("other 0", 3);
        y.yes("ends 3", 3);
        y.edges(3, "0 1 0,3-65535", "0 2 1-2", "1 1 0-65535", "2 1 0-65535");
        y.frees(3);
        y.yes("same 0 3", 0);
        y.yes("found 0 3 9", -2);
        y.yes("found 0 3 15", 0);
        y.yes("other 3", 4);
        y.yes("same 4 0", 1);
        // of one that takes nothing, and of one that takes all
        y.yes("other 1", 5);
        y.edges(5, "0 0 0-65535");
        y.yes("ends 5", 1);
        y.plain("twin 5", 2);
        y.yes("other 2", 6);
        y.edges(6, "0 0 0-65535");
        y.yes("ends 6", 0);
        y.plain("twin 6", 1);
    }

    /** 44 to 46, 49, 50: NONE: 1. */
    private static void noSuchMachine() {
        Bench x = Bench.of(TEXT);
        for (String name : new String[] {"sure", "least", "other", "again", "backwards"}) {
            x.none(name + " #", MACHINES, 1);
        }
        x.plain("total 2", MACHINES);
    }

    /**
     * 47: STATES are the pairs of CLASSES of a and b to which WORDS lead; those are ENDS of which f is true. a: letter 1
     * anywhere; b: an even number of letters.
     */
    private static void join() {
        Bench x = Bench.of("machine 2;edge 0 0 ![1];edge 0 1 [1];edge 1 1 any;end 1;"
                + "machine 2;edge 0 1 any;edge 1 0 any;end 0");
        for (int f = 0; f < 16; f++) {
            // pairs: none (no, even); 0 (no, odd); 1 (yes, odd); 0 1 (yes, even)
            long due = (f & 4) / 4 | (f & 1) * 2 | (f & 2) * 2 | f & 8;
            x.yes("join 0 1 " + f, 2);
            x.yes("ends 2", due);
            x.edges(2, "0 1 0,2-65535", "0 2 1", "1 0 0,2-65535", "1 3 1", "2 3 0-65535", "3 2 0-65535");
            x.frees(2);
            x.yes("size 2 0", 4);
            x.yes("drop", 2);
        }
        x.yes("join 0 0 8", 2);
        x.yes("same 0 2", 1);
        x.yes("size 2 0", 2);
        x.yes("join 1 0 6", 3);
        x.yes("join 0 1 6", 4);
        x.yes("same 3 4", 1);
    }

    /** 47: NONE: 1; 2. */
    private static void refusedJoin() {
        Bench x = Bench.of(TEXT);
        x.none("join # 0 8", MACHINES, 1);
        x.none("join 0 # 8", MACHINES, 1);
        x.none("join # # 8", MACHINES, 1);
        x.none("join 0 1 #", 16, 2);
        // a and b are looked at ahead of f
        x.none("join # 0 16", MACHINES, 1);
        x.none("join 0 # -1", MACHINES, 1);
        x.plain("total 2", MACHINES);
    }

    /**
     * 48: STATES of a, then those of b; EDGES, FREE steps likewise; then, from each END of a by numbers, a FREE step to
     * where b begins; ENDS of b.
     */
    private static void behind() {
        Bench x = Bench.of(TEXT);
        x.yes("behind 0 1", 2);
        x.yes("size 2 0", 5);
        x.edges(2, "0 1 1-5", "1 2 3-7", "3 4 8", "4 4");
        x.frees(2, "1 0", "2 3");
        x.yes("ends 2", 24);
        x.yes("behind 1 0", 3);
        x.edges(3, "0 1 8", "1 1", "2 3 1-5", "3 4 3-7");
        x.frees(3, "3 2", "0 2", "1 2");
        x.yes("ends 3", 16);
        x.yes("word 3 8 1 3 0", 3);
        x.yes("taken 3", 1);
        x.yes("taken 2", 0);
        x.yes("leads 3", 16 + 8 + 4);
        x.yes("behind 1 1", 4);
        x.yes("ends 4", 12);
        x.yes("longest 4", 2);
    }

    /** 48: no ENDS of a: no FREE step; none of b: no ENDS. */
    private static void behindWithoutEnds() {
        Bench x = Bench.of("machine 2;edge 0 1 [7];machine 1;end 0;edge 0 0 [8]");
        x.yes("behind 0 1", 2);
        x.edges(2, "0 1 7", "2 2 8");
        x.frees(2);
        x.yes("ends 2", 4);
        x.yes("longest 2", -2);
        x.yes("behind 1 0", 3);
        x.frees(3, "0 1");
        x.yes("ends 3", 0);
        x.yes("longest 3", -2);
    }

    /** 48: NONE: 1. */
    private static void noSuchBehind() {
        Bench x = Bench.of(TEXT);
        x.none("behind # 0", MACHINES, 1);
        x.none("behind 0 #", MACHINES, 1);
        x.none("behind # #", MACHINES, 1);
    }

    /** 49: a STATE 0 ahead, the END alone; a FREE step from 0 to 1; from each that was an END to 0; then those of m. */
    private static void again() {
        Bench x = Bench.of(TEXT);
        x.yes("again 0", 2);
        x.yes("size 2 0", 4);
        x.edges(2, "1 2 1-5", "2 3 3-7");
        x.frees(2, "0 1", "3 0", "2 1");
        x.yes("ends 2", 1);
        x.yes("longest 2", -3);
        x.yes("again 1", 3);
        x.edges(3, "1 2 8", "2 2");
        x.frees(3, "0 1", "1 0", "2 0");
        x.yes("ends 3", 1);
        x.yes("count 3 3", 1);
    }

    /** 50: a STATE 0 ahead; FREE steps from 0 to each that was an END; then those of m, its EDGES, turned; the END is 1. */
    private static void backwards() {
        Bench x = Bench.of(TEXT);
        x.yes("backwards 0", 2);
        x.yes("size 2 0", 4);
        x.edges(2, "2 1 1-5", "3 2 3-7");
        x.frees(2, "0 3", "1 2");
        x.yes("ends 2", 2);
        x.yes("word 2 7 1 0 0", 2);
        x.yes("taken 2", 1);
        x.yes("taken 0", 0);
        x.yes("backwards 1", 3);
        x.edges(3, "2 1 8", "2 2");
        x.frees(3, "0 1", "0 2");
        x.yes("ends 3", 2);
        x.yes("backwards 2", 4);
        x.yes("same 4 0", 1);
        x.yes("ends 4", 2);
        x.frees(4, "0 2", "4 1", "3 2");
    }

    /** 49, 50: without ENDS no FREE steps for them: the word without letters is taken again and again, none backwards. */
    private static void withoutEnds() {
        Bench x = Bench.of("machine 2;edge 0 1 [7];free 1 1");
        x.yes("again 0", 1);
        x.frees(1, "0 1", "2 2");
        x.edges(1, "1 2 7");
        x.yes("ends 1", 1);
        x.yes("longest 1", 0);
        x.yes("backwards 0", 2);
        x.frees(2, "2 2");
        x.edges(2, "2 1 7");
        x.yes("ends 2", 2);
        x.yes("longest 2", -2);
    }

    /** 51: m, its SETS' LETTERS only those of a SET s; EDGES with none then are left out. */
    private static void only() {
        Bench x = Bench.of(TEXT);
        x.yes("only 0 0", 2);
        x.yes("size 2 0", 3);
        x.edges(2, "0 1 2-3", "1 2 3");
        x.frees(2, "1 0");
        x.yes("ends 2", 4);
        x.yes("size 2 5", 4);
        x.yes("only 1 0", 3);
        x.edges(3);
        x.yes("ends 3", 3);
        x.yes("size 3 5", 1);
        // by a SET without LETTERS no EDGE is left
        x.yes("only 0 1", 4);
        x.edges(4);
        x.frees(4, "1 0");
        x.yes("size 4 0", 3);
        x.yes("ends 4", 4);
        // by all LETTERS the others are left
        Bench y = Bench.of("set all any;set gap [0..65535]-[100];set ends [0,65535];machine 1;edge 0 0 any;"
                + "edge 0 0 [7]-[7];end 0");
        y.yes("only 0 0", 1);
        y.edges(1, "0 0 0-65535");
        y.yes("only 0 1", 2);
        y.edges(2, "0 0 0-99,101-65535");
        y.yes("only 0 2", 3);
        y.edges(3, "0 0 0,65535");
        y.yes("only 3 1", 4);
        y.edges(4, "0 0 0,65535");
    }

    /** 51: NONE: 1 (s, too): without SETS 0 is none. */
    private static void noSuchOnly() {
        Bench x = Bench.of(TEXT);
        x.none("only # 0", MACHINES, 1);
        x.none("only 0 #", SETS, 1);
        x.none("only # #", MACHINES, 1);
        Bench.of("machine 1;edge 0 0 [1..9]").none("only 0 #", 0, 1);
    }

    /** 52: m, each LETTER of its SETS greater by k; what would be no LETTER goes; EDGES with none then are left out. */
    private static void moved() {
        Bench x = Bench.of("machine 2;edge 0 1 [0..9,65535];edge 1 1 any;edge 1 0 [5]-[5];free 1 0;end 1;"
                + "edge 1 0 [40]");
        x.yes("moved 0 0", 1);
        x.edges(1, "0 1 0-9,65535", "1 1 0-65535", "1 0 40");
        x.yes("moved 0 3", 2);
        x.edges(2, "0 1 3-12", "1 1 3-65535", "1 0 43");
        x.frees(2, "1 0");
        x.yes("ends 2", 2);
        x.yes("size 2 0", 2);
        x.yes("moved 0 -3", 3);
        x.edges(3, "0 1 0-6,65532", "1 1 0-65532", "1 0 37");
        x.yes("block 3 4", 65532);
        x.yes("block 3 5", 65533);
        x.yes("moved 0 -41", 4);
        x.edges(4, "0 1 65494", "1 1 0-65494");
    }

    /** 52: (-65,535 .. 65,535): nothing comes round at the other end. */
    private static void movedFar() {
        Bench x = Bench.of("machine 2;edge 0 1 [0..9,65535];edge 1 1 any;edge 1 0 [40];machine 1;edge 0 0 [5];"
                + "machine 1;edge 0 0 [0];machine 1;edge 0 0 [65535]");
        x.yes("moved 0 65535", 4);
        x.edges(4, "0 1 65535", "1 1 65535");
        x.yes("moved 0 -65535", 5);
        x.edges(5, "0 1 0", "1 1 0");
        x.yes("moved 1 -5", 6);
        x.edges(6, "0 0 0");
        x.yes("drop", 6);
        x.yes("moved 1 -6", 6);
        x.edges(6);
        x.yes("size 6 5", 1);
        x.yes("drop", 6);
        x.yes("moved 1 65530", 6);
        x.edges(6, "0 0 65535");
        x.yes("drop", 6);
        x.yes("moved 1 65531", 6);
        x.edges(6);
        x.yes("moved 2 -1", 7);
        x.edges(7);
        x.yes("moved 3 1", 8);
        x.edges(8);
        x.yes("moved 2 65535", 9);
        x.edges(9, "0 0 65535");
        x.yes("drop", 9);
        x.yes("moved 3 -65535", 9);
        x.edges(9, "0 0 0");
    }

    /** 52: NONE: 1; 2. */
    private static void refusedMoved() {
        Bench x = Bench.of(TEXT);
        x.none("moved # 1", MACHINES, 1);
        x.none("moved # 0", MACHINES, 1);
        for (int k : new int[] {65536, -65536, 65537, -65537, 1 << 17, 1 << 30, Integer.MAX_VALUE, Integer.MIN_VALUE}) {
            x.no("moved 0 " + k, 2);
            x.no("moved 1 " + k, 2);
            // m is looked at ahead of k
            x.no("moved 2 " + k, 1);
            x.no("moved -1 " + k, 1);
        }
        x.plain("total 2", MACHINES);
    }

    /** 53: a STATE 0 ahead; FREE steps from 0 to each to which the WORD of a LETTER alone led; then those of m. */
    private static void past() {
        Bench x = Bench.of(TEXT);
        x.yes("past 0 4", 2);
        x.yes("size 2 0", 4);
        x.edges(2, "1 2 1-5", "2 3 3-7");
        x.frees(2, "0 1", "0 2", "2 1");
        x.yes("ends 2", 8);
        x.yes("count 2 1", 5);
        // a LETTER that leads nowhere: no FREE step from 0
        x.yes("past 0 0", 3);
        x.frees(3, "2 1");
        x.yes("longest 3", -2);
        x.yes("past 1 8", 4);
        x.frees(4, "0 2");
        x.yes("ends 4", 6);
        x.edges(4, "1 2 8", "2 2");
        x.yes("longest 4", 0);
        // the first LETTER and the last
        Bench y = Bench.of("machine 4;edge 0 1 [0];edge 0 2 [65535];end 3;free 2 3");
        y.yes("past 0 0", 1);
        y.frees(1, "0 2", "3 4");
        y.yes("past 0 65535", 2);
        y.frees(2, "0 3", "0 4", "3 4");
        y.yes("ends 2", 16);
        y.yes("count 2 0", 1);
        y.yes("past 0 65534", 3);
        y.frees(3, "3 4");
    }

    /** 53: NONE: 1; 2: a number that is no LETTER. */
    private static void refusedPast() {
        Bench x = Bench.of(TEXT);
        x.none("past # 0", MACHINES, 1);
        x.none("past 0 #", 65536, 2);
        x.none("past 1 #", 65536, 2);
        // m is looked at ahead of the letter
        x.none("past # 65536", MACHINES, 1);
        x.none("past # -1", MACHINES, 1);
        x.plain("total 2", MACHINES);
    }

    /** III: what is MADE is a MACHINE behind all others; the others stay as they are. */
    private static void behindAllOthers() {
        Bench x = Bench.of(TEXT);
        String[] calls = {"sure 0", "least 0", "other 0", "join 0 1 8", "behind 0 1", "again 0", "backwards 0", "only 0 0"};
        for (int i = 0; i < calls.length; i++) {
            x.yes(calls[i], MACHINES + i);
            x.plain("total 1", MACHINES);
            x.plain("total 2", MACHINES + i + 1);
            x.none("ends #", MACHINES + i + 1, 1);
        }
        x.edges(0, "0 1 1-5", "1 2 3-7");
        x.frees(0, "1 0");
        x.edges(1, "0 1 8", "1 1");
        x.yes("ends 1", 3);
        x.yes("size 2 0", 5);
        x.yes("size 9 0", 3);
    }

    /** 54: the latest one that was MADE is no more: how many MACHINES are left. */
    private static void drop() {
        Bench x = Bench.of(TEXT);
        x.yes("sure 0", 2);
        x.yes("least 0", 3);
        x.yes("drop", 3);
        x.no("size 3 0", 1);
        x.yes("size 2 0", 5);
        x.yes("other 1", 3);
        x.yes("ends 3", 2);
        x.yes("drop", 3);
        x.yes("drop", 2);
        x.plain("total 1", 2);
        x.plain("total 2", 2);
        x.yes("size 1 0", 2);
        x.yes("size 0 0", 3);
    }

    /** 54: NONE: 1 (none was, or none such is left): none that was told goes. */
    private static void noDrop() {
        new Bench().no("drop", 1);
        Bench x = Bench.of(TEXT);
        x.no("drop", 1);
        x.yes("sure 0", 2);
        x.yes("drop", 2);
        x.no("drop", 1);
        x.plain("total 2", 2);
        // a new bench has none that was made; one with a fault leaves them
        x.yes("least 0", 2);
        x.faulty("machine 0", 4, 8);
        x.plain("total 2", 3);
        x.yes("drop", 2);
        x.yes("least 0", 2);
        x.fine("machine 1;machine 1;machine 1", 3);
        x.no("drop", 1);
        x.no("drop", 1);
        // what was refused was not made
        x.no("join 0 1 16", 2);
        x.no("least 3", 1);
        x.no("drop", 1);
    }

    /** No MACHINES: 0 is none such. */
    private static void withoutMachines() {
        Bench x = new Bench();
        for (String call : new String[] {"sure 0", "least 0", "other 0", "join 0 0 8", "join 0 0 16", "behind 0 0", "again 0",
            "backwards 0", "only 0 0", "moved 0 0", "moved 0 65536", "past 0 0", "past 0 -1"}) {
            x.no(call, 1);
        }
        x.plain("total 2", 0);
    }
}
