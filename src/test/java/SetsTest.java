/** Promises 6 to 12: sets told by lines, and what functions of two make of them. */
public final class SetsTest {
    /** Sets: 0 low, 1 all, 2 none, 3 odd, 4 high. */
    private static final String TEXT = "set low [0..9,20];set all any;set none [1]-[1];set odd [1,3,5,65535];"
            + "set high [9..30,65535];machine 1;edge 0 0 low";
    private static final int SETS = 5;

    public static void main(String[] args) {
        ranges();
        noSuchRanges();
        range();
        noSuchRange();
        letters();
        noSuchLetters();
        has();
        noSuchHas();
        mixed();
        refusedMixed();
        mixedRanges();
        refusedMixedRanges();
        mixedRange();
        refusedMixedRange();
        mostRanges();
        withoutSets();
        ofTheBenchAlone();
        Bench.end();
    }

    /** 6: how many RANGES a SET told by its LINE has (by numbers, as told, from 0). */
    private static void ranges() {
        Bench x = Bench.of(TEXT);
        x.yes("ranges 0", 2);
        x.yes("ranges 1", 1);
        x.yes("ranges 2", 0);
        x.yes("ranges 3", 4);
        x.yes("ranges 4", 2);
        // as long as can be: one behind the other without a letter between are one
        Bench y = Bench.of("set a [3..4,5..6,1,2];set b [1..3]|[4..6];set c any-[0];set d [0]|c;set e [1..3,5..6];"
                + "set f [0..32767,32768..65535];set g [65534,65535];set h [5..9,6..7];machine 1");
        int[] due = {1, 1, 1, 1, 2, 1, 1, 1};
        for (int s = 0; s < due.length; s++) {
            y.yes("ranges " + s, due[s]);
        }
        y.yes("range 0 0 true", 6);
        y.yes("range 2 0 false", 1);
        y.yes("range 7 0 true", 9);
        // none is fewest, 24 are most
        StringBuilder most = new StringBuilder("[0");
        for (int i = 1; i < 24; i++) {
            most.append(',').append(2 * i);
        }
        Bench z = Bench.of("set a " + most + "];set b any&!any;machine 1");
        z.yes("ranges 0", 24);
        z.yes("range 0 23 false", 46);
        z.yes("ranges 1", 0);
    }

    /** 6: NONE: 1. */
    private static void noSuchRanges() {
        Bench.of(TEXT).none("ranges #", SETS, 1);
    }

    /** 7: the least LETTER of its i-th RANGE, or the greatest. */
    private static void range() {
        Bench x = Bench.of(TEXT);
        x.yes("range 0 0 false", 0);
        x.yes("range 0 0 true", 9);
        x.yes("range 0 1 false", 20);
        x.yes("range 0 1 true", 20);
        x.yes("range 1 0 false", 0);
        x.yes("range 1 0 true", 65535);
        x.yes("range 3 0 false", 1);
        x.yes("range 3 3 false", 65535);
        x.yes("range 3 3 true", 65535);
    }

    /** 7: NONE: 1 (i, too). */
    private static void noSuchRange() {
        Bench x = Bench.of(TEXT);
        x.none("range # 0 false", SETS, 1);
        x.none("range # 0 true", SETS, 1);
        int[] ranges = {2, 1, 0, 4, 2};
        for (int s = 0; s < SETS; s++) {
            x.none("range " + s + " # false", ranges[s], 1);
            x.none("range " + s + " # true", ranges[s], 1);
        }
        x.no("range 5 -1 true", 1);
    }

    /** 8: how many LETTERS it has. */
    private static void letters() {
        Bench x = Bench.of(TEXT);
        x.yes("letters 0", 11);
        x.yes("letters 1", 65536);
        x.yes("letters 2", 0);
        x.yes("letters 3", 4);
        x.yes("letters 4", 23);
    }

    /** 8: NONE: 1. */
    private static void noSuchLetters() {
        Bench.of(TEXT).none("letters #", SETS, 1);
    }

    /** 9: 1 if it has a LETTER, 0. */
    private static void has() {
        Bench x = Bench.of(TEXT);
        x.yes("has 0 0", 1);
        x.yes("has 0 9", 1);
        x.yes("has 0 10", 0);
        x.yes("has 0 19", 0);
        x.yes("has 0 20", 1);
        x.yes("has 0 21", 0);
        x.yes("has 0 65535", 0);
        x.yes("has 1 0", 1);
        x.yes("has 1 65535", 1);
        x.yes("has 2 1", 0);
        x.yes("has 2 0", 0);
        x.yes("has 2 65535", 0);
        x.yes("has 3 0", 0);
        x.yes("has 3 65534", 0);
        x.yes("has 3 65535", 1);
    }

    /** 9: NONE: 1 (s); 2. */
    private static void noSuchHas() {
        Bench x = Bench.of(TEXT);
        x.none("has # 0", SETS, 1);
        x.none("has # 65536", SETS, 1);
        x.none("has # -1", SETS, 1);
        x.none("has 0 #", 65536, 2);
        x.none("has 1 #", 65536, 2);
        x.none("has 2 #", 65536, 2);
    }

    /** 10: how many LETTERS there are of which f is true (x: s has it; y: t does). */
    private static void mixed() {
        Bench x = Bench.of(TEXT);
        // low and high: 9, 20 in both; 0..8 in low alone; 10..19, 21..30, 65535 in high alone
        int neither = 65536 - 32;
        for (int f = 0; f < 16; f++) {
            int due = (f & 1) * neither + (f >> 1 & 1) * 9 + (f >> 2 & 1) * 21 + (f >> 3 & 1) * 2;
            x.yes("mixed 0 4 " + f, due);
            x.yes("mixed 4 0 " + (f & 9 | (f & 2) << 1 | (f & 4) >> 1), due);
            // one and the same: x and y are alike, so neither is ever alone
            x.yes("mixed 0 0 " + f, (f & 1) * (65536 - 11) + (f >> 3) * 11);
            // all and none: of every letter x alone is true
            x.yes("mixed 1 2 " + f, (f >> 1 & 1) * 65536);
            x.yes("mixed 2 1 " + f, (f >> 2 & 1) * 65536);
            x.yes("mixed 1 1 " + f, (f >> 3 & 1) * 65536);
            x.yes("mixed 2 2 " + f, (f & 1) * 65536);
        }
    }

    /** 10: NONE: 1; 2 (f). */
    private static void refusedMixed() {
        Bench x = Bench.of(TEXT);
        x.none("mixed # 0 8", SETS, 1);
        x.none("mixed 0 # 8", SETS, 1);
        x.none("mixed 0 1 #", 16, 2);
        x.none("mixed # 0 16", SETS, 1);
        x.none("mixed 0 # -1", SETS, 1);
        x.no("mixed 5 5 16", 1);
    }

    /** 11: how many RANGES they are. */
    private static void mixedRanges() {
        Bench x = Bench.of(TEXT);
        int[] due = {0, 1, 1, 2, 3, 2, 4, 3, 2, 3, 2, 3, 2, 1, 2, 1};
        for (int f = 0; f < 16; f++) {
            x.yes("mixedRanges 0 4 " + f, due[f]);
            x.yes("mixedRanges 1 2 " + f, f >> 1 & 1);
            x.yes("mixedRanges 2 2 " + f, f & 1);
        }
    }

    /** 11: NONE: 1; 2. */
    private static void refusedMixedRanges() {
        Bench x = Bench.of(TEXT);
        x.none("mixedRanges # 0 8", SETS, 1);
        x.none("mixedRanges 0 # 8", SETS, 1);
        x.none("mixedRanges 0 1 #", 16, 2);
        x.none("mixedRanges # 0 16", SETS, 1);
        x.none("mixedRanges 0 # -1", SETS, 1);
    }

    /** 12: the least LETTER of the i-th of these, or the greatest. */
    private static void mixedRange() {
        Bench x = Bench.of(TEXT);
        int[][][] due = {{}, {{31, 65534}}, {{0, 8}}, {}, {}, {}, {{0, 8}, {10, 19}, {21, 30}, {65535, 65535}}, {},
            {{9, 9}, {20, 20}}, {}, {}, {}, {}, {}, {{0, 30}, {65535, 65535}}, {{0, 65535}}};
        for (int f = 0; f < 16; f++) {
            for (int i = 0; i < due[f].length; i++) {
                x.yes("mixedRange 0 4 " + f + " " + i + " false", due[f][i][0]);
                x.yes("mixedRange 0 4 " + f + " " + i + " true", due[f][i][1]);
            }
        }
    }

    /** 12: NONE: 1 (s, t); 2 (f); 1 (i). */
    private static void refusedMixedRange() {
        Bench x = Bench.of(TEXT);
        x.none("mixedRange # 0 8 0 true", SETS, 1);
        x.none("mixedRange 0 # 8 0 true", SETS, 1);
        x.none("mixedRange 0 1 # 0 true", 16, 2);
        x.none("mixedRange 0 4 8 # true", 2, 1);
        x.none("mixedRange 0 4 8 # false", 2, 1);
        x.none("mixedRange 0 4 0 # true", 0, 1);
        x.none("mixedRange 0 4 15 # false", 1, 1);
        // s and t are looked at ahead of f, f ahead of i
        x.none("mixedRange # 0 16 0 true", SETS, 1);
        x.none("mixedRange 0 # -1 99 true", SETS, 1);
        x.none("mixedRange 0 1 # 99 true", 16, 2);
        x.none("mixedRange 0 1 # -1 false", 16, 2);
    }

    /** 24 ranges against 24 others: as many as there can be. */
    private static void mostRanges() {
        StringBuilder a = new StringBuilder();
        StringBuilder b = new StringBuilder();
        for (int i = 0; i < 24; i++) {
            a.append(i == 0 ? "" : ",").append(4 * i + 1);
            b.append(i == 0 ? "" : ",").append(4 * i + 3);
        }
        Bench x = Bench.of("set a [" + a + "];set b [" + b + "];machine 1");
        x.yes("mixed 0 1 14", 48);
        x.yes("mixed 0 1 1", 65536 - 48);
        x.yes("mixedRanges 0 1 14", 48);
        x.yes("mixedRanges 0 1 1", 49);
        x.yes("mixedRange 0 1 1 48 false", 96);
        x.yes("mixedRange 0 1 1 48 true", 65535);
        x.yes("mixedRange 0 1 1 0 true", 0);
        x.yes("mixedRange 0 1 14 47 false", 95);
        x.no("mixedRange 0 1 1 49 true", 1);
        x.no("mixedRange 0 1 14 48 true", 1);
        // the first and the last letter in one each: no range more at the ends
        Bench y = Bench.of("set a [0,65535];set b [1..65534];machine 1");
        y.yes("mixedRanges 0 1 14", 1);
        y.yes("mixedRanges 0 1 1", 0);
        y.yes("mixedRanges 0 1 2", 2);
        y.yes("mixedRange 0 1 2 1 false", 65535);
        y.yes("mixedRange 0 1 4 0 true", 65534);
    }

    /** No SETS: 0 is none such, on a new object and on a bench that tells machines alone. */
    private static void withoutSets() {
        for (Bench x : new Bench[] {new Bench(), Bench.of("machine 1;edge 0 0 [1..9]")}) {
            x.plain("total 0", 0);
            for (String call : new String[] {"ranges 0", "range 0 0 true", "letters 0", "has 0 0", "has 0 -1",
                "mixed 0 0 8", "mixed 0 0 16", "mixedRanges 0 0 8", "mixedRanges 0 0 -1", "mixedRange 0 0 8 0 true",
                "mixedRange 0 0 16 0 true"}) {
                x.no(call, 1);
            }
        }
    }

    /** The sets of the latest bench without fault, in the order of their lines, wherever these stand. */
    private static void ofTheBenchAlone() {
        Bench x = Bench.of("set z [1];machine 2;set b [1..2];edge 0 1 b;set a [1..3]");
        for (int s = 0; s < 3; s++) {
            x.yes("letters " + s, s + 1);
        }
        x.faulty("set b [7..99];machine 1;end 1", 2, 28);
        x.yes("letters 1", 2);
        x.fine("set q any;machine 1", 1);
        x.yes("letters 0", 65536);
        x.no("letters 1", 1);
        x.fine("machine 1", 1);
        x.no("letters 0", 1);
    }
}
