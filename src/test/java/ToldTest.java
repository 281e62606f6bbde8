/** Promises 56 to 58: totals, the word's letters, trouble; and what leaves the trouble as it was. */
public final class ToldTest {
    public static void main(String[] args) {
        total();
        letter();
        trouble();
        readme();
        Bench.end();
    }

    private static void total() {
        Bench x = Bench.of("set a any;set b a;machine 1;machine 2;machine 3");
        x.plain("total 0", 2);
        x.plain("total 1", 3);
        x.plain("total 2", 3);
        x.plain("total 3", 0);
        x.plain("total 4", 0);
        x.no("drop", 1);
        x.plain("total 5", -1);
        x.plain("total -1", -1);
        x.plain("total 2147483647", -1);
        x.yes("again 0", 3);
        x.plain("total 1", 3);
        x.plain("total 2", 4);
        x.plain("feed 1 2 3 4 5", 20);
        x.plain("feed 1 2 3 4 5", 40);
        x.plain("total 4", 40);
        x.yes("word 3 1 1 1 1", 3);
        x.plain("total 3", 3);
    }

    private static void letter() {
        Bench x = new Bench();
        x.no("letter 0", 1);
        x.yes("word 2 0 65535 0 0", 2);
        x.yes("letter 0", 0);
        x.yes("letter 1", 65535);
        x.no("letter 2", 1);
        x.no("letter -1", 1);
        x.no("letter 2147483647", 1);
        x.no("letter -2147483648", 1);
    }

    /** Of the latest call that may be refused; feed, fault, where, twin, total, trouble aren't such. */
    private static void trouble() {
        Bench x = new Bench();
        x.plain("trouble", 0);
        x.no("more 65536", 2);
        x.plain("feed 0 0 0 0 0", 20);
        x.plain("trouble", 2);
        x.plain("total 7", -1);
        x.lacks("twin 0");
        x.plain("fault", 0);
        x.plain("where", -1);
        x.plain("trouble", 2);
        x.faulty(20, 1, 0, "zeros");
        x.plain("trouble", 4);
        x.yes("word 4 0 0 0 0", 4);
        x.tell("machine 1");
        x.no("place 0", 5);
        x.no("place 1", 1);
        x.yes("count 0 0", 0);
        for (int i = 0; i < 12; i++) {
            x.yes("more 0", 5 + i);
        }
        x.no("more 0", 3);
        x.no("bench 1", 2);
        x.plain("trouble", 2);
        // a full tape leaves it, too
        for (int n = 20; n <= 900; n += 20) {
            x.plain("feed 0 0 0 0 0", n);
        }
        x.plain("feed 0 0 0 0 0", -1);
        x.plain("trouble", 2);
    }

    private static void readme() {
        RangedMachines x = new RangedMachines();
        x.feed(0x6d616368, 0x696e6520, 0x323b6564, 0x67652030, 0x2031205b);
        x.feed(0x352e2e39, 0x5d3b656e, 0x64203120, 0x20202020, 0x20202020);
        Bench.due("bench", x.bench(31), 1);
        Bench.due("word", x.word(1, 7, 0, 0, 0), 1);
        Bench.due("taken", x.taken(0), 1);
        Bench.due("count", x.count(0, 1), 5);
        Bench.due("backwards", x.backwards(0), 1);
        Bench.due("NONE", RangedMachines.NONE, -1);
    }
}
