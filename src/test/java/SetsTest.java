/** Promises 6 to 12: sets told by lines, and what functions of two make of them. */
public final class SetsTest {
    private static final String TEXT = "set low [0..9,20];set all any;set none [1]-[1];set odd [1,3,5,65535];"
            + "set high [9..30,65535];machine 1;edge 0 0 low";

    public static void main(String[] args) {
        ranges();
        has();
        mixed();
        wrong();
        wide();
        Bench.end();
    }

    private static void ranges() {
        Bench x = Bench.of(TEXT);
        x.yes("ranges 0", 2);
        x.yes("range 0 0 false", 0);
        x.yes("range 0 0 true", 9);
        x.yes("range 0 1 false", 20);
        x.yes("range 0 1 true", 20);
        x.yes("letters 0", 11);
        x.yes("ranges 1", 1);
        x.yes("range 1 0 true", 65535);
        x.yes("letters 1", 65536);
        x.yes("ranges 2", 0);
        x.yes("letters 2", 0);
        x.no("range 2 0 false", 1);
        x.yes("ranges 3", 4);
        x.yes("range 3 3 false", 65535);
        x.yes("letters 3", 4);
        // one behind the other without a letter between are one
        Bench y = Bench.of("set a [3..4,5..6,1,2];set b [1..3]|[4..6];set c any-[0];set d [0]|c;machine 1");
        y.yes("ranges 0", 1);
        y.yes("range 0 0 true", 6);
        y.yes("ranges 1", 1);
        y.yes("range 2 0 false", 1);
        y.yes("ranges 3", 1);
    }

    private static void has() {
        Bench x = Bench.of(TEXT);
        x.yes("has 0 0", 1);
        x.yes("has 0 9", 1);
        x.yes("has 0 10", 0);
        x.yes("has 0 19", 0);
        x.yes("has 0 20", 1);
        x.yes("has 0 65535", 0);
        x.yes("has 1 65535", 1);
        x.yes("has 2 1", 0);
        x.yes("has 3 65535", 1);
        x.no("has 0 -1", 2);
        x.no("has 0 65536", 2);
        x.no("has 5 65536", 1);
        x.no("has -1 0", 1);
    }

    /** low and high: 9, 20 in both; 0..8 in low alone; 10..19, 21..30, 65535 in high alone. */
    private static void mixed() {
        Bench x = Bench.of(TEXT);
        int neither = 65536 - 32;
        for (int f = 0; f < 16; f++) {
            int due = (f & 1) * neither + (f >> 1 & 1) * 9 + (f >> 2 & 1) * 21 + (f >> 3 & 1) * 2;
            x.yes("mixed 0 4 " + f, due);
            x.yes("mixed 4 0 " + (f & 9 | (f & 2) << 1 | (f & 4) >> 1), due);
        }
        x.yes("mixedRanges 0 4 8", 2);
        x.yes("mixedRange 0 4 8 0 false", 9);
        x.yes("mixedRange 0 4 8 0 true", 9);
        x.yes("mixedRange 0 4 8 1 false", 20);
        x.yes("mixedRanges 0 4 14", 2);
        x.yes("mixedRange 0 4 14 0 true", 30);
        x.yes("mixedRange 0 4 14 1 false", 65535);
        x.yes("mixedRanges 0 4 6", 4);
        x.yes("mixedRange 0 4 6 1 true", 19);
        x.yes("mixedRange 0 4 6 3 true", 65535);
        x.yes("mixedRanges 0 4 1", 1);
        x.yes("mixedRange 0 4 1 0 false", 31);
        x.yes("mixedRange 0 4 1 0 true", 65534);
        x.yes("mixedRanges 0 4 0", 0);
        x.yes("mixedRanges 0 4 15", 1);
        x.yes("mixedRange 0 4 15 0 true", 65535);
        x.yes("mixed 0 0 9", 65536);
        x.yes("mixed 0 0 6", 0);
        x.yes("mixed 2 1 4", 65536);
        x.yes("mixedRanges 2 2 1", 1);
    }

    private static void wrong() {
        Bench x = Bench.of(TEXT);
        for (String call : new String[] {"ranges 5", "ranges -1", "range 5 0 true", "range 0 2 true", "range 0 -1 true",
            "range 0 2147483647 true", "range 0 -2147483648 false", "letters 5", "letters -2147483648",
            "mixed 5 0 0", "mixed 0 5 0", "mixed 0 -1 16", "mixed -1 0 -1", "mixedRanges 5 0 0", "mixedRanges 0 5 16",
            "mixedRange 5 0 0 0 true", "mixedRange 0 5 16 9 true", "mixedRange 0 4 8 2 true", "mixedRange 0 4 8 -1 true",
            "mixedRange 0 4 0 0 true", "mixedRange 0 4 14 2147483647 true"}) {
            x.no(call, 1);
        }
        for (String call : new String[] {"mixed 0 1 16", "mixed 0 1 -1", "mixedRanges 0 1 16", "mixedRanges 0 1 -1",
            "mixedRange 0 1 16 99 true", "mixedRange 0 1 -1 -1 true"}) {
            x.no(call, 2);
        }
    }

    /** 24 ranges against 24 others: as many as there can be. */
    private static void wide() {
        StringBuilder a = new StringBuilder();
        StringBuilder b = new StringBuilder();
        for (int i = 0; i < 24; i++) {
            a.append(i == 0 ? "" : ",").append(4 * i + 1);
            b.append(i == 0 ? "" : ",").append(4 * i + 3);
        }
        Bench x = Bench.of("set a [" + a + "];set b [" + b + "];machine 1");
        x.yes("mixedRanges 0 1 14", 48);
        x.yes("mixedRanges 0 1 1", 49);
        x.yes("mixedRange 0 1 1 48 false", 96);
        x.yes("mixedRange 0 1 1 48 true", 65535);
        x.yes("mixedRange 0 1 1 0 true", 0);
        x.yes("mixedRange 0 1 14 47 false", 95);
        x.no("mixedRange 0 1 1 49 true", 1);
    }
}
