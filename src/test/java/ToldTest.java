/** Promises 56 to 58: totals, the word's letters, trouble; and what leaves the trouble as it was. */
public final class ToldTest {
    public static void main(String[] args) {
        total();
        noTotal();
        totalOfNothing();
        letter();
        noSuchLetter();
        trouble();
        troubleOfEach();
        troubleStays();
        readme();
        Bench.end();
    }

    /** 56: 0 SETS told by LINES, 1 MACHINES told, 2 MACHINES, 3 LETTERS of THE WORD, 4 bytes of THE TAPE. */
    private static void total() {
        Bench x = Bench.of("set a any;set b a;machine 1;machine 2;machine 3");
        totals(x, 2, 3, 3, 0, 0);
        x.yes("again 0", 3);
        x.yes("word 3 1 1 1 1", 3);
        x.plain("feed 1 2 3 4 5", 20);
        x.plain("feed 1 2 3 4 5", 40);
        totals(x, 2, 3, 4, 3, 40);
        x.yes("drop", 3);
        x.yes("more 7", 4);
        totals(x, 2, 3, 3, 4, 40);
        // a fault empties the tape alone
        x.faulty(40, 1, 0, "what is no text");
        totals(x, 2, 3, 3, 4, 0);
        // as many as there can be
        StringBuilder sets = new StringBuilder();
        for (char c = 'a'; c < 'm'; c++) {
            sets.append("set ").append(c).append(" any;");
        }
        Bench y = Bench.of(sets + "machine 1;machine 1;machine 1;machine 1");
        for (int m = 4; m < 10; m++) {
            y.yes("sure 0", m);
        }
        for (int n = 1; n <= 16; n++) {
            y.yes("more 1", n);
        }
        for (int n = 20; n <= 900; n += 20) {
            y.plain("feed 1 1 1 1 1", n);
        }
        totals(y, 12, 4, 10, 16, 900);
    }

    private static void totals(Bench x, int... due) {
        for (int what = 0; what < due.length; what++) {
            x.still("total " + what, due[what]);
        }
    }

    /** 56: NONE for others; TROUBLE stays. */
    private static void noTotal() {
        for (Bench x : new Bench[] {new Bench(), Bench.full()}) {
            for (int trouble = 0; trouble < 3; trouble++) {
                for (int what : new int[] {5, 6, -1, -5, 65536, 1 << 30, Integer.MAX_VALUE, Integer.MIN_VALUE}) {
                    x.still("total " + what, -1);
                }
                if (trouble == 0) {
                    x.no("more -1", 2);
                } else {
                    x.faulty("machine 0", 4, 8);
                }
            }
        }
    }

    /** 56: 0 for what there isn't. */
    private static void totalOfNothing() {
        Bench x = new Bench();
        totals(x, 0, 0, 0, 0, 0);
        x.faulty("machine", 1, 7);
        totals(x, 0, 0, 0, 0, 0);
        x.fine("machine 1", 1);
        totals(x, 0, 1, 1, 0, 0);
        x.fine("set a any;machine 1", 1);
        x.fine("machine 1", 1);
        totals(x, 0, 1, 1, 0, 0);
        x.yes("word 2 1 1 0 0", 2);
        x.yes("word 0 0 0 0 0", 0);
        totals(x, 0, 1, 1, 0, 0);
    }

    /** 57: THE WORD's i-th LETTER. */
    private static void letter() {
        Bench x = new Bench();
        x.yes("word 2 0 65535 0 0", 2);
        x.yes("letter 0", 0);
        x.yes("letter 1", 65535);
        for (int n = 3; n <= 16; n++) {
            x.yes("more " + 10 * n, n);
        }
        for (int i = 2; i < 16; i++) {
            x.yes("letter " + i, 10 * (i + 1));
        }
    }

    /** 57: NONE: 1. */
    private static void noSuchLetter() {
        Bench x = new Bench();
        x.none("letter #", 0, 1);
        x.yes("word 4 9 9 9 9", 4);
        x.none("letter #", 4, 1);
        x.yes("word 2 0 65535 0 0", 2);
        x.none("letter #", 2, 1);
        for (int n = 3; n <= 16; n++) {
            x.yes("more 1", n);
        }
        x.none("letter #", 16, 1);
        x.yes("word 0 1 1 1 1", 0);
        x.none("letter #", 0, 1);
    }

    /** 58, IV: TROUBLE of the latest call that may be refused: 0 it wasn't; 1 .. 5. */
    private static void trouble() {
        Bench x = new Bench();
        x.still("trouble", 0);
        x.no("drop", 1);
        x.still("trouble", 1);
        x.no("more 65536", 2);
        x.still("trouble", 2);
        x.yes("word 4 0 0 0 0", 4);
        for (int n = 5; n <= 16; n++) {
            x.yes("more 0", n);
        }
        x.still("trouble", 0);
        x.no("more 0", 3);
        x.still("trouble", 3);
        x.faulty("machine 13", 4, 8);
        x.still("trouble", 4);
        x.fine("machine 1", 1);
        x.still("trouble", 0);
        x.no("place 0", 5);
        x.still("trouble", 5);
        x.no("place 1", 1);
        x.no("bench 1", 2);
        x.still("trouble", 2);
        x.yes("count 0 0", 0);
        x.still("trouble", 0);
    }

    /** IV: each call of which a number is told: 0 behind one that isn't refused, whatever was ahead of it. */
    private static void troubleOfEach() {
        String[] calls = {"ranges 0", "range 0 0 true", "letters 0", "has 0 0", "mixed 0 0 8", "mixedRanges 0 0 8",
            "mixedRange 0 0 8 0 true", "size 0 0", "edge 0 0 0", "edge 0 0 1", "edge 0 0 2", "edge 0 0 3",
            "edgeRange 0 0 0 true", "free 0 0 true", "ends 0", "block 0 0", "sheaf 0 0", "useless 0", "terms 0 0",
            "term 0 0 0 0", "term 0 0 0 1", "term 0 0 0 2", "go 0 0 0", "takes 0 0", "dead 0", "first 0 0",
            "firstLetter 0 1 0", "parting 0 0 1", "parting 0 0 0", "partingLetter 0 0 1 0", "rounds 0", "word 0 0 0 0 0",
            "word 4 1 1 1 1", "more 0", "taken 0", "leads 0", "classOf 0", "place 0", "count 0 0", "at 0 2 0 0", "longest 0",
            "longest 1", "found 0 0 8", "found 0 0 0", "foundLetter 0 0 8 0", "same 0 0", "within 0 0", "sure 0", "least 0",
            "other 0", "join 0 0 8", "behind 0 0", "again 0", "backwards 0", "only 0 0", "moved 0 1", "past 0 1", "drop",
            "letter 0"};
        Bench[] all = {Bench.full(), Bench.full(), Bench.full()};
        all[0].no("more -1", 2);
        all[1].no("size 99 0", 1);
        all[2].faulty("#", 1, 0);
        for (Bench x : all) {
            for (String call : calls) {
                Bench y = x.copy();
                y.ask(call);
                Bench.due("trouble behind " + call, y.ask("trouble"), 0);
                Bench.due("where behind " + call, y.ask("where"), -1);
            }
            Bench z = x.copy();
            z.fine("machine 1", 1);
        }
    }

    /** IV: feed, fault, where, twin, total, trouble tell no number: TROUBLE stays. */
    private static void troubleStays() {
        Bench x = Bench.full();
        Bench[] all = {x, x.copy(), x.copy(), x.copy()};
        all[1].no("more -1", 2);
        all[2].no("size 99 0", 1);
        all[3].faulty("#", 1, 0);
        for (Bench y : all) {
            y.plain("feed 0 0 0 0 0", 20);
            y.plain("total 7", -1);
            y.plain("total 2", 4);
            y.lacks("twin 0");
            y.plain("twin 3", 0);
            y.ask("fault");
            y.ask("where");
            // a full tape, too
            for (int n = 40; n <= 900; n += 20) {
                y.plain("feed 0 0 0 0 0", n);
            }
            y.still("feed 0 0 0 0 0", -1);
        }
        all[0].plain("trouble", 0);
        all[1].plain("trouble", 2);
        all[2].plain("trouble", 1);
        all[3].plain("trouble", 4);
        all[3].plain("where", 0);
    }

    private static void readme() {
        RangedMachines x = new RangedMachines();
        x.feed(0x6d616368, 0x696e6520, 0x323b6564, 0x67652030, 0x2031205b);
        x.feed(0x352e2e39, 0x5d3b656e, 0x64203120, 0x20202020, 0x20202020);
        Bench.due("bench", x.bench(31), 1);
        Bench.due("word", x.word(1, 7, 0, 0, 0), 1);
        Bench.due("taken", x.taken(0), 1);
        Bench.due("count", x.count(0, 1), 5);
        Bench.due("backwards", x.backwards(0), 1);
        Bench.due("NONE", RangedMachines.NONE, -1);
    }
}
