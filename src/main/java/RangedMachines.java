import java.util.Arrays;
import java.util.NoSuchElementException;

/**
 * A bench of machines that take words, whose edges carry sets of letters told by ranges.
 * Every row is made in the constructor and used again, so that no call makes an object.
 */
public final class RangedMachines {
    public static final int NONE = -1;

    private static final int ALL = 65536;
    private static final int TAPE_ROOM = 900;
    private static final int FEED_BYTES = 20;
    private static final int WORD_ROOM = 16;
    private static final int WORD_AT_ONCE = 4;
    private static final int LONGEST_COUNTED = 3;

    private static final int TOLD_SETS = 12;
    private static final int TOLD_RANGES = 24;
    private static final int TOLD_MACHINES = 4;
    private static final int TOLD_STATES = 12;
    private static final int TOLD_EDGES = 24;
    private static final int TOLD_FREES = 8;
    private static final int DEEPEST = 12;

    private static final int MACHINES = 10;
    private static final int STATES = 40;
    private static final int EDGES = 160;
    private static final int FREES = 64;
    private static final int BLOCKS = 128;
    private static final int SHEAVES = 40;
    private static final int PAIRS = SHEAVES * SHEAVES;

    /** Two machines of 128 blocks cut the letters into 255 at most. */
    private static final int DRAFT_BLOCKS = 256;

    /**
     * A set's cuts are bounds of ranges in the text, 0 or 65,536; a range and the sign behind it
     * take two bytes or more, so 900 bytes tell no more than 450 ranges: 902 cuts.
     */
    private static final int CUTS = TAPE_ROOM + 2;

    private static final int NO_SUCH = 1;
    private static final int NUMBER = 2;
    private static final int NO_ROOM = 3;
    private static final int FAULTY = 4;
    private static final int NOT_SO = 5;

    private static final int FORM = 1;
    private static final int UNTOLD = 2;
    private static final int TWICE = 3;
    private static final int BOUNDS = 4;
    private static final int MANY = 5;
    private static final int DEEP = 6;
    private static final int LACKS = 7;
    private static final int WIDE = 8;

    private static final int FUNCTIONS = 16;
    private static final int FIRST_ALONE = 2;
    private static final int DIFFERENT = 6;
    private static final int BOTH = 8;
    private static final int EITHER = 14;

    private static final int NO_WORD = -2;
    private static final int NO_END = -3;

    private final byte[] tape = new byte[TAPE_ROOM];
    private final int[] wordLetters = new int[WORD_ROOM];
    private final Machine[] machines = new Machine[MACHINES];
    private final Draft draft = new Draft();
    private final Reader reader = new Reader(draft);
    private final Pairs pairs = new Pairs(draft);
    private final Counts counts = new Counts();
    private final Minterms minterms = new Minterms();
    private final LetterSet blend = new LetterSet(4 * TOLD_RANGES + 2);
    private SetTable sets = new SetTable();
    private int tapeUsed;
    private int wordUsed;
    private int toldMachines;
    private int allMachines;
    private int troubleNow;
    private int faultNow;
    private int faultPlace;

    public RangedMachines() {
        for (int i = 0; i < MACHINES; i++) {
            machines[i] = new Machine();
        }
    }

    // ---- the bench

    public int feed(int a, int b, int c, int d, int e) {
        if (tapeUsed > TAPE_ROOM - FEED_BYTES) {
            return NONE;
        }
        putFour(a);
        putFour(b);
        putFour(c);
        putFour(d);
        putFour(e);
        return tapeUsed;
    }

    public int bench(int n) {
        if (n < 0 || n > tapeUsed) {
            return refused(NUMBER);
        }
        tapeUsed = 0;
        boolean fine = reader.readBench(tape, n);
        faultNow = reader.text.faultNumber;
        faultPlace = reader.text.faultSpot;
        if (!fine) {
            return refused(FAULTY);
        }
        takeBench();
        return granted(allMachines);
    }

    public int fault() {
        return faultNow;
    }

    public int where() {
        return troubleNow == FAULTY ? faultPlace : NONE;
    }

    // ---- sets

    public int ranges(int s) {
        if (!isSet(s)) {
            return refused(NO_SUCH);
        }
        return granted(sets.sets[s].rangeCount());
    }

    public int range(int s, int i, boolean greatest) {
        if (!isSet(s) || !isIn(i, sets.sets[s].rangeCount())) {
            return refused(NO_SUCH);
        }
        return granted(sets.sets[s].bound(i, greatest));
    }

    public int letters(int s) {
        if (!isSet(s)) {
            return refused(NO_SUCH);
        }
        return granted(sets.sets[s].amount());
    }

    public int has(int s, int letter) {
        if (!isSet(s)) {
            return refused(NO_SUCH);
        }
        if (!isIn(letter, ALL)) {
            return refused(NUMBER);
        }
        return granted(sets.sets[s].holds(letter) ? 1 : 0);
    }

    public int mixed(int s, int t, int f) {
        int why = mix(s, t, f);
        return why != 0 ? refused(why) : granted(blend.amount());
    }

    public int mixedRanges(int s, int t, int f) {
        int why = mix(s, t, f);
        return why != 0 ? refused(why) : granted(blend.rangeCount());
    }

    public int mixedRange(int s, int t, int f, int i, boolean greatest) {
        int why = mix(s, t, f);
        if (why != 0) {
            return refused(why);
        }
        if (!isIn(i, blend.rangeCount())) {
            return refused(NO_SUCH);
        }
        return granted(blend.bound(i, greatest));
    }

    // ---- machines

    public int size(int m, int what) {
        if (!isMachine(m) || !isIn(what, 7)) {
            return refused(NO_SUCH);
        }
        return granted(machines[m].howMany(what));
    }

    public int edge(int m, int i, int what) {
        if (!isMachine(m) || !isIn(i, machines[m].edges) || !isIn(what, 4)) {
            return refused(NO_SUCH);
        }
        Machine x = machines[m];
        switch (what) {
            case 0:
                return granted(x.froms[i]);
            case 1:
                return granted(x.tos[i]);
            case 2:
                return granted(x.edgeRanges(i));
            default:
                return granted(x.edgeLetters(i));
        }
    }

    public int edgeRange(int m, int i, int j, boolean greatest) {
        if (!isMachine(m) || !isIn(i, machines[m].edges)
                || !isIn(j, machines[m].edgeRanges(i))) {
            return refused(NO_SUCH);
        }
        return granted(machines[m].edgeBound(i, j, greatest));
    }

    public int free(int m, int i, boolean to) {
        if (!isMachine(m) || !isIn(i, machines[m].frees)) {
            return refused(NO_SUCH);
        }
        return granted(to ? machines[m].freeTos[i] : machines[m].freeFroms[i]);
    }

    public long ends(int m) {
        if (!isMachine(m)) {
            return refused(NO_SUCH);
        }
        return grantedLong(machines[m].endBits);
    }

    public int block(int m, int i) {
        if (!isMachine(m) || !isIn(i, machines[m].blocks)) {
            return refused(NO_SUCH);
        }
        return granted(machines[m].starts[i]);
    }

    public long sheaf(int m, int i) {
        if (!isMachine(m) || !isIn(i, machines[m].paths.sheaves)) {
            return refused(NO_SUCH);
        }
        return grantedLong(machines[m].paths.bits[i]);
    }

    public long useless(int m) {
        if (!isMachine(m)) {
            return refused(NO_SUCH);
        }
        return grantedLong(machines[m].uselessStates());
    }

    public int terms(int m, int q) {
        if (!isMachine(m) || !isIn(q, machines[m].states)) {
            return refused(NO_SUCH);
        }
        minterms.group(machines[m], q);
        return granted(minterms.groups);
    }

    public int term(int m, int q, int i, int what) {
        if (!isMachine(m) || !isIn(q, machines[m].states) || !isIn(what, 3)) {
            return refused(NO_SUCH);
        }
        minterms.group(machines[m], q);
        if (!isIn(i, minterms.groups)) {
            return refused(NO_SUCH);
        }
        int leader = minterms.leaderOf(machines[m], i);
        switch (what) {
            case 0:
                return granted(machines[m].starts[leader]);
            case 1:
                return granted(minterms.amountOf(machines[m], i));
            default:
                return granted(machines[m].edgesWith(q, leader));
        }
    }

    // ---- classes

    public int go(int m, int c, int letter) {
        if (!isClass(m, c)) {
            return refused(NO_SUCH);
        }
        if (!isIn(letter, ALL)) {
            return refused(NUMBER);
        }
        return granted(machines[m].paths.classStep(c, machines[m].blockOf(letter)));
    }

    public int takes(int m, int c) {
        if (!isClass(m, c)) {
            return refused(NO_SUCH);
        }
        return granted(machines[m].paths.classTakes(c) ? 1 : 0);
    }

    public int dead(int m) {
        if (!isMachine(m)) {
            return refused(NO_SUCH);
        }
        return granted(machines[m].paths.deadClass());
    }

    public int first(int m, int c) {
        if (!isClass(m, c)) {
            return refused(NO_SUCH);
        }
        Paths paths = machines[m].paths;
        return granted(paths.depths[paths.heads[c]]);
    }

    public int firstLetter(int m, int c, int i) {
        if (!isClass(m, c)) {
            return refused(NO_SUCH);
        }
        Paths paths = machines[m].paths;
        int head = paths.heads[c];
        if (!isIn(i, paths.depths[head])) {
            return refused(NO_SUCH);
        }
        return granted(machines[m].starts[paths.blockOnWay(head, i)]);
    }

    public int parting(int m, int c, int d) {
        if (!isClass(m, c) || !isClass(m, d)) {
            return refused(NO_SUCH);
        }
        return granted(c == d ? NO_WORD : machines[m].paths.classesApart(c, d));
    }

    public int partingLetter(int m, int c, int d, int i) {
        if (!isClass(m, c) || !isClass(m, d) || c == d
                || !isIn(i, machines[m].paths.classesApart(c, d))) {
            return refused(NO_SUCH);
        }
        return granted(machines[m].starts[machines[m].paths.partingBlock(c, d, i)]);
    }

    public int rounds(int m) {
        if (!isMachine(m)) {
            return refused(NO_SUCH);
        }
        return granted(machines[m].paths.lastRound);
    }

    // ---- words

    public int word(int n, int a, int b, int c, int d) {
        if (!isIn(n, WORD_AT_ONCE + 1)) {
            return refused(NUMBER);
        }
        boolean fine = (n < 1 || isIn(a, ALL)) && (n < 2 || isIn(b, ALL))
                && (n < 3 || isIn(c, ALL)) && (n < 4 || isIn(d, ALL));
        if (!fine) {
            return refused(NUMBER);
        }
        wordLetters[0] = a;
        wordLetters[1] = b;
        wordLetters[2] = c;
        wordLetters[3] = d;
        wordUsed = n;
        return granted(n);
    }

    public int more(int letter) {
        if (!isIn(letter, ALL)) {
            return refused(NUMBER);
        }
        if (wordUsed >= WORD_ROOM) {
            return refused(NO_ROOM);
        }
        wordLetters[wordUsed] = letter;
        wordUsed++;
        return granted(wordUsed);
    }

    public int taken(int m) {
        if (!isMachine(m)) {
            return refused(NO_SUCH);
        }
        return granted(machines[m].paths.sheafTakes(sheafOfWord(machines[m])) ? 1 : 0);
    }

    public long leads(int m) {
        if (!isMachine(m)) {
            return refused(NO_SUCH);
        }
        return grantedLong(machines[m].paths.bits[sheafOfWord(machines[m])]);
    }

    public int classOf(int m) {
        if (!isMachine(m)) {
            return refused(NO_SUCH);
        }
        return granted(machines[m].paths.kinds[sheafOfWord(machines[m])]);
    }

    public long place(int m) {
        if (!isMachine(m)) {
            return refused(NO_SUCH);
        }
        if (wordUsed > LONGEST_COUNTED) {
            return refused(NOT_SO);
        }
        counts.fill(machines[m], wordUsed);
        return grantedLong(counts.aheadOf(machines[m], wordLetters, wordUsed));
    }

    public long count(int m, int n) {
        if (!isMachine(m)) {
            return refused(NO_SUCH);
        }
        if (!isIn(n, LONGEST_COUNTED + 1)) {
            return refused(NUMBER);
        }
        counts.fill(machines[m], n);
        return grantedLong(counts.behindSheaf(n, 0));
    }

    public int at(int m, int n, long k, int i) {
        if (!isMachine(m)) {
            return refused(NO_SUCH);
        }
        if (n < 1 || n > LONGEST_COUNTED) {
            return refused(NUMBER);
        }
        counts.fill(machines[m], n);
        if (k < 0 || k >= counts.behindSheaf(n, 0) || !isIn(i, n)) {
            return refused(NO_SUCH);
        }
        return granted(counts.letterOfKth(machines[m], n, k, i));
    }

    public int longest(int m) {
        if (!isMachine(m)) {
            return refused(NO_SUCH);
        }
        return granted(machines[m].paths.longestTaken());
    }

    // ---- two machines

    public int found(int a, int b, int f) {
        int why = whyNoPair(a, b, f);
        if (why != 0) {
            return refused(why);
        }
        int hit = pairs.firstOf(machines[a], machines[b], f);
        return granted(hit < 0 ? NO_WORD : pairs.depths[hit]);
    }

    public int foundLetter(int a, int b, int f, int i) {
        int why = whyNoPair(a, b, f);
        if (why != 0) {
            return refused(why);
        }
        int hit = pairs.firstOf(machines[a], machines[b], f);
        if (hit < 0 || !isIn(i, pairs.depths[hit])) {
            return refused(NO_SUCH);
        }
        return granted(pairs.letterOnWay(hit, i));
    }

    public int same(int a, int b) {
        if (!isMachine(a) || !isMachine(b)) {
            return refused(NO_SUCH);
        }
        return granted(pairs.firstOf(machines[a], machines[b], DIFFERENT) < 0 ? 1 : 0);
    }

    public int within(int a, int b) {
        if (!isMachine(a) || !isMachine(b)) {
            return refused(NO_SUCH);
        }
        return granted(pairs.firstOf(machines[a], machines[b], FIRST_ALONE) < 0 ? 1 : 0);
    }

    // ---- what is MADE

    public int sure(int m) {
        if (!isMachine(m)) {
            return refused(NO_SUCH);
        }
        draft.drawSheaves(machines[m]);
        return keepDraft();
    }

    public int least(int m) {
        if (!isMachine(m)) {
            return refused(NO_SUCH);
        }
        draft.drawClasses(machines[m], true);
        return keepDraft();
    }

    public int other(int m) {
        if (!isMachine(m)) {
            return refused(NO_SUCH);
        }
        draft.drawClasses(machines[m], false);
        return keepDraft();
    }

    public int join(int a, int b, int f) {
        int why = whyNoPair(a, b, f);
        if (why != 0) {
            return refused(why);
        }
        if (!pairs.drawAll(machines[a], machines[b], f)) {
            return refused(NO_ROOM);
        }
        return keepDraft();
    }

    public int behind(int a, int b) {
        if (!isMachine(a) || !isMachine(b)) {
            return refused(NO_SUCH);
        }
        Machine x = machines[a];
        Machine y = machines[b];
        draft.begin(x.states + y.states);
        draft.cutLike(x, 0);
        draft.cutLike(y, 0);
        draft.trace(x, 0);
        draft.copyEdges(x, 0, false);
        draft.trace(y, 0);
        draft.copyEdges(y, x.states, false);
        draft.copyFrees(x, 0, false);
        draft.copyFrees(y, x.states, false);
        draft.freeFromEach(x.endBits, 0, x.states);
        draft.endBits = y.endBits << x.states;
        return keepDraft();
    }

    public int again(int m) {
        if (!isMachine(m)) {
            return refused(NO_SUCH);
        }
        Machine x = machines[m];
        draft.begin(x.states + 1);
        draft.addFree(0, 1);
        draft.freeFromEach(x.endBits, 1, 0);
        draft.copyWhole(x, 1, false);
        draft.endBits = 1L;
        return keepDraft();
    }

    public int backwards(int m) {
        if (!isMachine(m)) {
            return refused(NO_SUCH);
        }
        Machine x = machines[m];
        draft.begin(x.states + 1);
        draft.freeToEach(x.endBits, 1);
        draft.copyWhole(x, 1, true);
        draft.endBits = 2L;
        return keepDraft();
    }

    public int only(int m, int s) {
        if (!isMachine(m) || !isSet(s)) {
            return refused(NO_SUCH);
        }
        Machine x = machines[m];
        draft.begin(x.states);
        draft.cutLike(x, 0);
        draft.cutBy(sets.sets[s]);
        draft.trace(x, 0);
        draft.leaveOutside(sets.sets[s]);
        draft.copyFilledEdges(x);
        draft.copyFrees(x, 0, false);
        draft.endBits = x.endBits;
        return keepDraft();
    }

    public int moved(int m, int k) {
        if (!isMachine(m)) {
            return refused(NO_SUCH);
        }
        if (k <= -ALL || k >= ALL) {
            return refused(NUMBER);
        }
        Machine x = machines[m];
        draft.begin(x.states);
        draft.cutLike(x, k);
        draft.trace(x, k);
        draft.copyFilledEdges(x);
        draft.copyFrees(x, 0, false);
        draft.endBits = x.endBits;
        return keepDraft();
    }

    public int past(int m, int letter) {
        if (!isMachine(m)) {
            return refused(NO_SUCH);
        }
        if (!isIn(letter, ALL)) {
            return refused(NUMBER);
        }
        Machine x = machines[m];
        draft.begin(x.states + 1);
        draft.freeToEach(x.paths.bits[x.paths.sheafStep(0, x.blockOf(letter))], 1);
        draft.copyWhole(x, 1, false);
        draft.endBits = x.endBits << 1;
        return keepDraft();
    }

    public int drop() {
        if (allMachines <= toldMachines) {
            return refused(NO_SUCH);
        }
        allMachines--;
        return granted(allMachines);
    }

    // ---- what is told

    public int twin(int m) throws NoSuchElementException {
        int earlier = NONE;
        for (int i = 0; earlier == NONE && isMachine(m) && i < m; i++) {
            if (pairs.firstOf(machines[i], machines[m], DIFFERENT) < 0) {
                earlier = i;
            }
        }
        if (earlier == NONE) {
            throw new NoSuchElementException();
        }
        return earlier;
    }

    public int total(int what) {
        switch (what) {
            case 0:
                return sets.used;
            case 1:
                return toldMachines;
            case 2:
                return allMachines;
            case 3:
                return wordUsed;
            case 4:
                return tapeUsed;
            default:
                return NONE;
        }
    }

    public int letter(int i) {
        if (!isIn(i, wordUsed)) {
            return refused(NO_SUCH);
        }
        return granted(wordLetters[i]);
    }

    public int trouble() {
        return troubleNow;
    }

    // ---- helpers of the face

    private static boolean isIn(int i, int bound) {
        return i >= 0 && i < bound;
    }

    /** Whether the function f is true of two truths. */
    private static boolean isTrue(int f, boolean x, boolean y) {
        return (f >> ((x ? 1 : 0) + (y ? 2 : 0)) & 1) == 1;
    }

    private int refused(int why) {
        troubleNow = why;
        return NONE;
    }

    private int granted(int answer) {
        troubleNow = 0;
        return answer;
    }

    private long grantedLong(long answer) {
        troubleNow = 0;
        return answer;
    }

    private boolean isSet(int s) {
        return isIn(s, sets.used);
    }

    private boolean isMachine(int m) {
        return isIn(m, allMachines);
    }

    private boolean isClass(int m, int c) {
        return isMachine(m) && isIn(c, machines[m].paths.classes);
    }

    private void putFour(int bytes) {
        for (int shift = 24; shift >= 0 && tapeUsed < TAPE_ROOM; shift -= 8) {
            tape[tapeUsed] = (byte) (bytes >>> shift);
            tapeUsed++;
        }
    }

    /** What was told before serves as room for the next text. */
    private void takeBench() {
        SetTable oldSets = sets;
        sets = reader.sets;
        reader.sets = oldSets;
        toldMachines = reader.machineCount;
        allMachines = toldMachines;
        for (int i = 0; i < toldMachines && i < TOLD_MACHINES; i++) {
            Machine old = machines[i];
            machines[i] = reader.machines[i];
            reader.machines[i] = old;
        }
    }

    /** The blend is what f makes of two sets; the answer says why not, or is 0. */
    private int mix(int s, int t, int f) {
        if (!isSet(s) || !isSet(t)) {
            return NO_SUCH;
        }
        if (!isIn(f, FUNCTIONS)) {
            return NUMBER;
        }
        blend.combine(sets.sets[s], sets.sets[t], f);
        return 0;
    }

    private int whyNoPair(int a, int b, int f) {
        if (!isMachine(a) || !isMachine(b)) {
            return NO_SUCH;
        }
        return isIn(f, FUNCTIONS) ? 0 : NUMBER;
    }

    private int sheafOfWord(Machine x) {
        int now = 0;
        for (int i = 0; i < wordUsed && i < WORD_ROOM; i++) {
            now = x.paths.sheafStep(now, x.blockOf(wordLetters[i]));
        }
        return now;
    }

    private int keepDraft() {
        if (allMachines >= MACHINES || !machines[allMachines].settle(draft)) {
            return refused(NO_ROOM);
        }
        allMachines++;
        return granted(allMachines - 1);
    }

    // ---- classes inside

    /** Letters, told by cuts: from each even one on they are in, from each odd one on they aren't. */
    private static final class LetterSet {
        final int[] cuts;
        int used;

        LetterSet(int room) {
            cuts = new int[Math.max(room, 0)];
        }

        int rangeCount() {
            return used / 2;
        }

        int bound(int i, boolean greatest) {
            int cut = greatest ? 2 * i + 1 : 2 * i;
            if (!isIn(cut, used)) {
                return NONE;
            }
            return greatest ? cuts[cut] - 1 : cuts[cut];
        }

        int amount() {
            int sum = 0;
            for (int i = 0; i + 1 < used; i += 2) {
                sum += cuts[i + 1] - cuts[i];
            }
            return sum;
        }

        boolean holds(int letter) {
            int passed = 0;
            while (passed < used && cuts[passed] <= letter) {
                passed++;
            }
            return passed % 2 == 1;
        }

        void clear() {
            used = 0;
        }

        /** One range: from a letter to another. */
        void become(int least, int greatest) {
            used = 0;
            if (cuts.length >= 2) {
                cuts[0] = least;
                cuts[1] = greatest + 1;
                used = 2;
            }
        }

        void copy(LetterSet x) {
            used = 0;
            for (int i = 0; i < x.used; i++) {
                addCut(x.cuts[i]);
            }
        }

        /** The letters of which f is true; this is neither x nor y. */
        void combine(LetterSet x, LetterSet y, int f) {
            used = 0;
            int i = 0;
            int j = 0;
            int now = 0;
            boolean inside = false;
            for (int turn = 0; turn <= x.used + y.used && now < ALL; turn++) {
                if (i < x.used && x.cuts[i] == now) {
                    i++;
                }
                if (j < y.used && y.cuts[j] == now) {
                    j++;
                }
                if (isTrue(f, i % 2 == 1, j % 2 == 1) != inside) {
                    inside = !inside;
                    addCut(now);
                }
                int nextOfX = i < x.used ? x.cuts[i] : ALL;
                int nextOfY = j < y.used ? y.cuts[j] : ALL;
                now = Math.min(nextOfX, nextOfY);
            }
            if (inside) {
                addCut(ALL);
            }
        }

        private void addCut(int letter) {
            if (used < cuts.length) {
                cuts[used] = letter;
                used++;
            }
        }
    }

    /** The sets that lines have told, with their names. */
    private static final class SetTable {
        final LetterSet[] sets = new LetterSet[TOLD_SETS];
        final long[] names = new long[TOLD_SETS];
        int used;

        SetTable() {
            for (int i = 0; i < TOLD_SETS; i++) {
                sets[i] = new LetterSet(2 * TOLD_RANGES);
            }
        }

        int numberOf(long name) {
            for (int i = 0; i < used && i < TOLD_SETS; i++) {
                if (names[i] == name) {
                    return i;
                }
            }
            return NONE;
        }
    }

    /** A text cut into tokens, the one at which its reader stands, and its fault. */
    private static final class Text {
        /** A sign's kind is its own byte, which is greater than these. */
        static final int THE_END = 0;
        static final int NO_TOKEN = 1;
        static final int NAME = 2;
        static final int WHOLE = 3;
        static final int DOTS = 4;
        static final int SET = 5;
        static final int MACHINE = 6;
        static final int EDGE = 7;
        static final int FREE = 8;
        static final int END = 9;
        static final int ANY = 10;
        static final String SIGNS = ";|&-!()[],";
        static final int LONGEST_NAME = 7;
        static final int LONGEST_WHOLE = 5;

        final int[] kinds = new int[TAPE_ROOM + 1];
        final int[] spots = new int[TAPE_ROOM + 1];
        final long[] values = new long[TAPE_ROOM + 1];
        int tokens;
        int cursor;
        int kind;
        int spot;
        long value;
        int faultNumber;
        int faultSpot;

        /** The last token is the end, or the first byte that begins none. */
        void split(byte[] bytes, int length) {
            tokens = 0;
            faultNumber = 0;
            faultSpot = NONE;
            int from = 0;
            for (int turn = 0; turn < length && from < length; turn++) {
                int step = bytes[from] == ' ' ? 1 : addToken(bytes, from, length);
                if (step == 0) {
                    break;
                }
                from += step;
            }
            add(from < length ? NO_TOKEN : THE_END, from, 0L);
            cursor = -1;
            step();
        }

        /** Behind the last token there is none to step to. */
        void step() {
            if (cursor + 1 < tokens) {
                cursor++;
                kind = kinds[cursor];
                spot = spots[cursor];
                value = values[cursor];
            }
        }

        boolean fail(int number) {
            faultNumber = number;
            faultSpot = spot;
            return false;
        }

        boolean failAt(int number, int itsSpot) {
            faultNumber = number;
            faultSpot = itsSpot;
            return false;
        }

        /** How many bytes the token has; 0 if none begins here. */
        private int addToken(byte[] bytes, int from, int length) {
            int letters = runOf(bytes, from, length, 'a', 'z');
            if (letters > 0 && letters <= LONGEST_NAME) {
                long code = valueOf(bytes, from, letters, 'a' - 1, 32);
                add(kindOf(code), from, code);
                return letters;
            }
            int digits = runOf(bytes, from, length, '0', '9');
            if (digits > 0 && digits <= LONGEST_WHOLE) {
                add(WHOLE, from, valueOf(bytes, from, digits, '0', 10));
                return digits;
            }
            if (runOf(bytes, from, length, '.', '.') >= 2) {
                add(DOTS, from, 0L);
                return 2;
            }
            int sign = bytes[from];
            if (sign > 0 && SIGNS.indexOf((char) sign) >= 0) {
                add(sign, from, 0L);
                return 1;
            }
            return 0;
        }

        private static int runOf(byte[] bytes, int from, int length, int least, int greatest) {
            int run = 0;
            while (from + run < length && bytes[from + run] >= least
                    && bytes[from + run] <= greatest) {
                run++;
            }
            return run;
        }

        private static long valueOf(byte[] bytes, int from, int run, int zero, int base) {
            long value = 0;
            for (int i = from; i < from + run; i++) {
                value = value * base + bytes[i] - zero;
            }
            return value;
        }

        /** The words of the language can be no set's name. */
        private static int kindOf(long code) {
            return code == codeOf("set") ? SET
                    : code == codeOf("machine") ? MACHINE
                    : code == codeOf("edge") ? EDGE
                    : code == codeOf("free") ? FREE
                    : code == codeOf("end") ? END
                    : code == codeOf("any") ? ANY
                    : NAME;
        }

        private static long codeOf(String name) {
            long code = 0;
            for (int i = 0; i < name.length(); i++) {
                code = code * 32 + name.charAt(i) - ('a' - 1);
            }
            return code;
        }

        private void add(int newKind, int newSpot, long newValue) {
            if (tokens < kinds.length) {
                kinds[tokens] = newKind;
                spots[tokens] = newSpot;
                values[tokens] = newValue;
                tokens++;
            }
        }
    }

    /** Reads a BODY with a stack of its own: a level for each ( that is open, and one below. */
    private static final class Bodies {
        static final int LEVELS = DEEPEST + 1;

        final Text text;
        final LetterSet[] eithers = new LetterSet[LEVELS];
        final LetterSet[] meets = new LetterSet[LEVELS];
        /** By which function the next part comes to the meet. */
        final int[] joins = new int[LEVELS];
        /** How many ! stand open ahead of the next part. */
        final int[] nots = new int[LEVELS];
        final LetterSet single = new LetterSet(2);
        LetterSet leaf = new LetterSet(CUTS);
        LetterSet spare = new LetterSet(CUTS);
        int level;
        int opened;
        boolean partDue;

        Bodies(Text text) {
            this.text = text;
            for (int i = 0; i < LEVELS; i++) {
                eithers[i] = new LetterSet(CUTS);
                meets[i] = new LetterSet(CUTS);
            }
        }

        boolean readBody(SetTable sets, LetterSet into) {
            int begins = text.spot;
            level = 0;
            opened = 0;
            openLevel();
            boolean open = true;
            for (int turn = 0; open && turn <= TAPE_ROOM; turn++) {
                if (!partDue) {
                    open = readSign();
                } else if (!readPart(sets)) {
                    return false;
                }
            }
            if (level > 0) {
                return text.fail(FORM);
            }
            closeMeet();
            if (eithers[0].rangeCount() > TOLD_RANGES) {
                return text.failAt(MANY, begins);
            }
            into.copy(eithers[0]);
            return true;
        }

        private void openLevel() {
            eithers[level].clear();
            nots[level] = 0;
            openMeet();
        }

        /** Of all letters and the first part, both are the part. */
        private void openMeet() {
            meets[level].become(0, ALL - 1);
            joins[level] = BOTH;
            partDue = true;
        }

        private void closeMeet() {
            spare.combine(eithers[level], meets[level], EITHER);
            LetterSet old = eithers[level];
            eithers[level] = spare;
            spare = old;
        }

        /** An odd count of ! turns the part about: then f reads its truth the other way. */
        private void closePart(LetterSet part) {
            int f = joins[level];
            if (nots[level] % 2 == 1) {
                f = (f & 3) << 2 | f >> 2;
            }
            spare.combine(meets[level], part, f);
            LetterSet old = meets[level];
            meets[level] = spare;
            spare = old;
            opened -= nots[level];
            nots[level] = 0;
            partDue = false;
        }

        private boolean readPart(SetTable sets) {
            boolean not = text.kind == '!';
            if (not || text.kind == '(') {
                if (opened >= DEEPEST || level + 1 >= LEVELS) {
                    return text.fail(DEEP);
                }
                opened++;
                text.step();
                if (not) {
                    nots[level]++;
                } else {
                    level++;
                    openLevel();
                }
                return true;
            }
            if (text.kind == '[' ? !readRanges() : !readName(sets)) {
                return false;
            }
            closePart(leaf);
            return true;
        }

        private boolean readName(SetTable sets) {
            if (text.kind == Text.ANY) {
                leaf.become(0, ALL - 1);
                text.step();
                return true;
            }
            if (text.kind != Text.NAME) {
                return text.fail(FORM);
            }
            int number = sets.numberOf(text.value);
            if (number == NONE) {
                return text.fail(UNTOLD);
            }
            leaf.copy(sets.sets[number]);
            text.step();
            return true;
        }

        private boolean readRanges() {
            leaf.clear();
            for (int turn = 0; turn < TAPE_ROOM; turn++) {
                text.step();
                int least = readBound(0);
                int greatest = least;
                if (least >= 0 && text.kind == Text.DOTS) {
                    text.step();
                    greatest = readBound(least);
                }
                if (greatest < 0) {
                    return false;
                }
                single.become(least, greatest);
                spare.combine(leaf, single, EITHER);
                LetterSet old = leaf;
                leaf = spare;
                spare = old;
                if (text.kind == ']') {
                    text.step();
                    return true;
                }
                if (text.kind != ',') {
                    return text.fail(FORM);
                }
            }
            return text.fail(FORM);
        }

        /** A letter no less than another; NONE with a fault. */
        private int readBound(int least) {
            if (text.kind != Text.WHOLE) {
                text.fail(FORM);
                return NONE;
            }
            long value = text.value;
            if (value >= ALL || value < least) {
                text.fail(BOUNDS);
                return NONE;
            }
            text.step();
            return (int) value;
        }

        /** Whether the body goes on behind a part. */
        private boolean readSign() {
            int kind = text.kind;
            if (kind == '|') {
                closeMeet();
                openMeet();
            } else if (kind == '&' || kind == '-') {
                joins[level] = kind == '&' ? BOTH : FIRST_ALONE;
                partDue = true;
            } else if (kind == ')' && level > 0) {
                closeMeet();
                level--;
                opened--;
                closePart(eithers[level + 1]);
            } else {
                return false;
            }
            text.step();
            return true;
        }
    }

    /** Reads a text; what it tells stands beside the bench until it is known to be without fault. */
    private static final class Reader {
        final Text text = new Text();
        final Bodies bodies = new Bodies(text);
        final Draft draft;
        final LetterSet[] edgeSets = new LetterSet[TOLD_EDGES];
        final Machine[] machines = new Machine[TOLD_MACHINES];
        SetTable sets = new SetTable();
        int machineCount;
        boolean wide;

        Reader(Draft draft) {
            this.draft = draft;
            for (int i = 0; i < TOLD_EDGES; i++) {
                edgeSets[i] = new LetterSet(2 * TOLD_RANGES);
            }
            for (int i = 0; i < TOLD_MACHINES; i++) {
                machines[i] = new Machine();
            }
        }

        boolean readBench(byte[] bytes, int length) {
            text.split(bytes, length);
            sets.used = 0;
            machineCount = 0;
            wide = false;
            boolean lineDue = true;
            for (int line = 0; lineDue && line <= TAPE_ROOM; line++) {
                if (text.kind == Text.MACHINE) {
                    closeMachine();
                }
                boolean fine;
                switch (text.kind) {
                    case Text.SET:
                        fine = readSet();
                        break;
                    case Text.MACHINE:
                        fine = readMachine();
                        break;
                    case Text.EDGE:
                        fine = readEdge();
                        break;
                    case Text.FREE:
                        fine = readFree();
                        break;
                    case Text.END:
                        fine = readEnd();
                        break;
                    default:
                        fine = text.fail(FORM);
                        break;
                }
                if (!fine) {
                    return false;
                }
                lineDue = text.kind == ';';
                if (lineDue) {
                    text.step();
                }
            }
            if (text.kind != Text.THE_END) {
                return text.fail(FORM);
            }
            if (machineCount == 0) {
                return text.fail(LACKS);
            }
            closeMachine();
            return !wide || text.fail(WIDE);
        }

        private boolean readSet() {
            if (sets.used >= TOLD_SETS) {
                return text.fail(MANY);
            }
            text.step();
            if (text.kind != Text.NAME) {
                return text.fail(FORM);
            }
            long name = text.value;
            if (sets.numberOf(name) != NONE) {
                return text.fail(TWICE);
            }
            text.step();
            if (!bodies.readBody(sets, sets.sets[sets.used])) {
                return false;
            }
            sets.names[sets.used] = name;
            sets.used++;
            return true;
        }

        private boolean readMachine() {
            if (machineCount >= TOLD_MACHINES) {
                return text.fail(MANY);
            }
            text.step();
            if (text.kind != Text.WHOLE) {
                return text.fail(FORM);
            }
            long states = text.value;
            if (states < 1 || states > TOLD_STATES) {
                return text.fail(BOUNDS);
            }
            text.step();
            draft.begin((int) states);
            machineCount++;
            return true;
        }

        private boolean readEdge() {
            if (machineCount == 0) {
                return text.fail(LACKS);
            }
            if (draft.edges >= TOLD_EDGES) {
                return text.fail(MANY);
            }
            text.step();
            int from = readState();
            int to = from < 0 ? NONE : readState();
            if (to < 0 || !bodies.readBody(sets, edgeSets[draft.edges])) {
                return false;
            }
            draft.addEdge(from, to);
            return true;
        }

        private boolean readFree() {
            if (machineCount == 0) {
                return text.fail(LACKS);
            }
            if (draft.frees >= TOLD_FREES) {
                return text.fail(MANY);
            }
            text.step();
            int from = readState();
            int to = from < 0 ? NONE : readState();
            if (to < 0) {
                return false;
            }
            draft.addFree(from, to);
            return true;
        }

        private boolean readEnd() {
            if (machineCount == 0) {
                return text.fail(LACKS);
            }
            text.step();
            int spot = text.spot;
            int state = readState();
            if (state < 0) {
                return false;
            }
            if ((draft.endBits >>> state & 1L) == 1L) {
                return text.failAt(TWICE, spot);
            }
            draft.endBits |= 1L << state;
            return true;
        }

        /** A state of the latest machine; NONE with a fault. */
        private int readState() {
            if (text.kind != Text.WHOLE) {
                text.fail(FORM);
                return NONE;
            }
            long state = text.value;
            if (state >= draft.states) {
                text.fail(UNTOLD);
                return NONE;
            }
            text.step();
            return (int) state;
        }

        /** Only at the end of the text a machine that is too wide is a fault. */
        private void closeMachine() {
            int latest = machineCount - 1;
            if (!isIn(latest, TOLD_MACHINES)) {
                return;
            }
            int edges = Math.min(draft.edges, TOLD_EDGES);
            for (int e = 0; e < edges; e++) {
                draft.cutBy(edgeSets[e]);
            }
            for (int e = 0; e < edges; e++) {
                draft.markSet(e, edgeSets[e]);
            }
            if (!machines[latest].settle(draft)) {
                wide = true;
            }
        }
    }

    /** A machine that is being made; its edges' sets are told by marks on its blocks. */
    private static final class Draft {
        static final int MARK_WORDS = DRAFT_BLOCKS / 64;

        final int[] froms = new int[EDGES];
        final int[] tos = new int[EDGES];
        final long[] marks = new long[EDGES * MARK_WORDS];
        final int[] freeFroms = new int[FREES];
        final int[] freeTos = new int[FREES];
        final int[] starts = new int[DRAFT_BLOCKS];
        /** For each block that of another machine whose letters come here, or NONE. */
        final int[] sources = new int[DRAFT_BLOCKS];
        int states;
        long endBits;
        int edges;
        int frees;
        int blocks;
        /** Whether more was told than there is room for. */
        boolean over;

        void begin(int howMany) {
            states = howMany;
            endBits = 0;
            edges = 0;
            frees = 0;
            blocks = 1;
            starts[0] = 0;
            over = howMany > STATES;
        }

        /** From a letter on there is another block. */
        void cut(int letter) {
            int spot = blocks;
            while (spot > 0 && starts[spot - 1] > letter) {
                spot--;
            }
            if (letter >= ALL || spot == 0 || starts[spot - 1] == letter) {
                return;
            }
            if (blocks >= DRAFT_BLOCKS) {
                over = true;
                return;
            }
            for (int b = blocks; b > spot; b--) {
                starts[b] = starts[b - 1];
            }
            starts[spot] = letter;
            blocks++;
        }

        void cutBy(LetterSet x) {
            for (int i = 0; i < x.used; i++) {
                cut(x.cuts[i]);
            }
        }

        /** Cuts where the machine's blocks, moved by k, begin, and where the last one ends. */
        void cutLike(Machine x, int k) {
            for (int b = 0; b < x.blocks; b++) {
                cut(x.starts[b] + k);
            }
            cut(ALL + k);
        }

        /** Sources in a machine whose letters are moved by k. */
        void trace(Machine x, int k) {
            for (int b = 0; b < blocks; b++) {
                int letter = starts[b] - k;
                sources[b] = isIn(letter, ALL) ? x.blockOf(letter) : NONE;
            }
        }

        void leaveOutside(LetterSet x) {
            for (int b = 0; b < blocks; b++) {
                if (!x.holds(starts[b])) {
                    sources[b] = NONE;
                }
            }
        }

        /** The edge's number; NONE if there is no room. */
        int addEdge(int from, int to) {
            if (edges >= EDGES) {
                over = true;
                return NONE;
            }
            froms[edges] = from;
            tos[edges] = to;
            for (int w = 0; w < MARK_WORDS; w++) {
                marks[edges * MARK_WORDS + w] = 0;
            }
            edges++;
            return edges - 1;
        }

        void addFree(int from, int to) {
            if (frees >= FREES) {
                over = true;
                return;
            }
            freeFroms[frees] = from;
            freeTos[frees] = to;
            frees++;
        }

        void freeFromEach(long stateBits, int shift, int to) {
            for (int q = 0; q < STATES; q++) {
                if ((stateBits >>> q & 1L) == 1L) {
                    addFree(q + shift, to);
                }
            }
        }

        void freeToEach(long stateBits, int shift) {
            for (int q = 0; q < STATES; q++) {
                if ((stateBits >>> q & 1L) == 1L) {
                    addFree(0, q + shift);
                }
            }
        }

        boolean isMarked(int e, int b) {
            return (marks[e * MARK_WORDS + b / 64] >>> b % 64 & 1L) == 1L;
        }

        void mark(int e, int b) {
            marks[e * MARK_WORDS + b / 64] |= 1L << b % 64;
        }

        void markSet(int e, LetterSet x) {
            for (int b = 0; b < blocks; b++) {
                if (x.holds(starts[b])) {
                    mark(e, b);
                }
            }
        }

        /** The letters of a block lead from a state to one; a state's come one behind the other. */
        void lead(int from, int to, int b) {
            int e = edges - 1;
            while (e >= 0 && froms[e] == from && tos[e] != to) {
                e--;
            }
            if (e < 0 || froms[e] != from) {
                e = addEdge(from, to);
            }
            if (e >= 0) {
                mark(e, b);
            }
        }

        void copyWhole(Machine x, int shift, boolean turned) {
            cutLike(x, 0);
            trace(x, 0);
            copyEdges(x, shift, turned);
            copyFrees(x, shift, turned);
        }

        void copyEdges(Machine x, int shift, boolean turned) {
            for (int e = 0; e < x.edges; e++) {
                int from = turned ? x.tos[e] : x.froms[e];
                int to = turned ? x.froms[e] : x.tos[e];
                copyMarks(x, e, addEdge(from + shift, to + shift));
            }
        }

        /** Edges without letters are left out. */
        void copyFilledEdges(Machine x) {
            for (int e = 0; e < x.edges; e++) {
                int mine = addEdge(x.froms[e], x.tos[e]);
                if (mine >= 0 && copyMarks(x, e, mine) == 0) {
                    edges = mine;
                }
            }
        }

        void copyFrees(Machine x, int shift, boolean turned) {
            for (int i = 0; i < x.frees; i++) {
                int from = turned ? x.freeTos[i] : x.freeFroms[i];
                int to = turned ? x.freeFroms[i] : x.freeTos[i];
                addFree(from + shift, to + shift);
            }
        }

        void drawSheaves(Machine x) {
            begin(x.paths.sheaves);
            cutLike(x, 0);
            for (int s = 0; s < x.paths.sheaves; s++) {
                for (int b = 0; b < x.blocks; b++) {
                    lead(s, x.paths.sheafStep(s, b), b);
                }
            }
            endBits = x.paths.takingBits;
        }

        /** Ends are the classes that are ends, or those that aren't. */
        void drawClasses(Machine x, boolean taking) {
            begin(x.paths.classes);
            cutLike(x, 0);
            for (int c = 0; c < x.paths.classes; c++) {
                for (int b = 0; b < x.blocks; b++) {
                    lead(c, x.paths.classStep(c, b), b);
                }
                if (x.paths.classTakes(c) == taking) {
                    endBits |= 1L << c;
                }
            }
        }

        /** How many blocks were marked. */
        private int copyMarks(Machine x, int theirs, int mine) {
            int marked = 0;
            for (int b = 0; mine >= 0 && b < blocks; b++) {
                if (sources[b] >= 0 && x.edgeHas(theirs, sources[b])) {
                    mark(mine, b);
                    marked++;
                }
            }
            return marked;
        }
    }

    /** A machine of the bench; its edges' sets are told by marks on its blocks. */
    private static final class Machine {
        static final int MARK_WORDS = BLOCKS / 64;

        final int[] froms = new int[EDGES];
        final int[] tos = new int[EDGES];
        final long[] marks = new long[EDGES * MARK_WORDS];
        final int[] freeFroms = new int[FREES];
        final int[] freeTos = new int[FREES];
        final int[] starts = new int[BLOCKS];
        final Paths paths = new Paths();
        int states;
        long endBits;
        int edges;
        int frees;
        int blocks;

        /** Becomes what the draft tells; false, and it is none, if it is too large. */
        boolean settle(Draft draft) {
            if (draft.over) {
                return false;
            }
            states = draft.states;
            endBits = draft.endBits;
            edges = draft.edges;
            frees = draft.frees;
            System.arraycopy(draft.froms, 0, froms, 0, EDGES);
            System.arraycopy(draft.tos, 0, tos, 0, EDGES);
            System.arraycopy(draft.freeFroms, 0, freeFroms, 0, FREES);
            System.arraycopy(draft.freeTos, 0, freeTos, 0, FREES);
            if (!takeBlocks(draft) || !paths.findSheaves(this)) {
                return false;
            }
            paths.findClasses();
            return true;
        }

        /** Of the draft's blocks those that no edge parts become one. */
        private boolean takeBlocks(Draft draft) {
            Arrays.fill(marks, 0L);
            blocks = 0;
            for (int b = 0; b < draft.blocks; b++) {
                if (!beginsBlock(draft, b)) {
                    continue;
                }
                if (blocks >= BLOCKS) {
                    return false;
                }
                starts[blocks] = draft.starts[b];
                for (int e = 0; e < edges; e++) {
                    if (draft.isMarked(e, b)) {
                        marks[e * MARK_WORDS + blocks / 64] |= 1L << blocks % 64;
                    }
                }
                blocks++;
            }
            return true;
        }

        private boolean beginsBlock(Draft draft, int b) {
            boolean begins = b == 0;
            for (int e = 0; !begins && e < edges; e++) {
                begins = draft.isMarked(e, b) != draft.isMarked(e, b - 1);
            }
            return begins;
        }

        boolean edgeHas(int e, int b) {
            return (marks[e * MARK_WORDS + b / 64] >>> b % 64 & 1L) == 1L;
        }

        boolean edgeIsFilled(int e) {
            return (marks[e * MARK_WORDS] | marks[e * MARK_WORDS + 1]) != 0L;
        }

        int blockOf(int letter) {
            int b = blocks - 1;
            while (b > 0 && starts[b] > letter) {
                b--;
            }
            return b;
        }

        /** The first letter behind a block. */
        int endOf(int b) {
            return b + 1 < blocks ? starts[b + 1] : ALL;
        }

        int lengthOf(int b) {
            return endOf(b) - starts[b];
        }

        int howMany(int what) {
            switch (what) {
                case 0:
                    return states;
                case 1:
                    return edges;
                case 2:
                    return frees;
                case 3:
                    return Long.bitCount(endBits);
                case 4:
                    return paths.sheaves;
                case 5:
                    return blocks;
                default:
                    return paths.classes;
            }
        }

        int edgeRanges(int e) {
            int runs = 0;
            for (int b = 0; b < blocks; b++) {
                if (edgeHas(e, b) && (b == 0 || !edgeHas(e, b - 1))) {
                    runs++;
                }
            }
            return runs;
        }

        int edgeLetters(int e) {
            int sum = 0;
            for (int b = 0; b < blocks; b++) {
                if (edgeHas(e, b)) {
                    sum += lengthOf(b);
                }
            }
            return sum;
        }

        int edgeBound(int e, int range, boolean greatest) {
            int runs = 0;
            for (int b = 0; b < blocks; b++) {
                boolean begins = b == 0 || !edgeHas(e, b - 1);
                boolean ends = b + 1 == blocks || !edgeHas(e, b + 1);
                if (edgeHas(e, b) && begins) {
                    runs++;
                }
                if (edgeHas(e, b) && runs == range + 1 && (greatest ? ends : begins)) {
                    return greatest ? endOf(b) - 1 : starts[b];
                }
            }
            return NONE;
        }

        /** How many edges from a state have the letters of a block. */
        int edgesWith(int q, int b) {
            int sum = 0;
            for (int e = 0; e < edges; e++) {
                if (froms[e] == q && edgeHas(e, b)) {
                    sum++;
                }
            }
            return sum;
        }

        long uselessStates() {
            long onWay = spread(1L, false) & spread(endBits, true);
            return (1L << states) - 1 & ~onWay;
        }

        /** The states that can be reached from some, or, turned, from which some can be. */
        private long spread(long some, boolean turned) {
            long reached = some;
            for (int turn = 0; turn < states; turn++) {
                for (int i = 0; i < frees; i++) {
                    reached = carry(reached, freeFroms[i], freeTos[i], turned);
                }
                for (int e = 0; e < edges; e++) {
                    if (edgeIsFilled(e)) {
                        reached = carry(reached, froms[e], tos[e], turned);
                    }
                }
            }
            return reached;
        }

        private static long carry(long reached, int from, int to, boolean turned) {
            int source = turned ? to : from;
            int target = turned ? from : to;
            return (reached >>> source & 1L) == 1L ? reached | 1L << target : reached;
        }
    }

    /** The sheaves of a machine and its classes: to each class belong some sheaves. */
    private static final class Paths {
        int sheaves;
        final long[] bits = new long[SHEAVES];
        final int[] steps = new int[SHEAVES * BLOCKS];
        /** From which sheaf and by which block the first word came to a sheaf. */
        final int[] parents = new int[SHEAVES];
        final int[] vias = new int[SHEAVES];
        final int[] depths = new int[SHEAVES];
        long takingBits;
        int blocks;
        final long[] closures = new long[STATES];
        final long[] targets = new long[BLOCKS];

        int classes;
        /** The class of each sheaf; the first sheaf of each class. */
        final int[] kinds = new int[SHEAVES];
        final int[] heads = new int[SHEAVES];
        /** How long the shortest words are that part two sheaves; NONE if none does. */
        final int[] apart = new int[SHEAVES * SHEAVES];
        final int[] olderKinds = new int[SHEAVES];
        int lastRound;

        /** False if there are too many sheaves. */
        boolean findSheaves(Machine x) {
            blocks = x.blocks;
            closeFrees(x);
            sheaves = 0;
            takingBits = 0;
            addSheaf(x, closures[0], NONE, NONE);
            for (int s = 0; s < SHEAVES && s < sheaves; s++) {
                findTargets(x, s);
                for (int b = 0; b < blocks; b++) {
                    int t = sheafWith(targets[b]);
                    if (t == NONE) {
                        t = addSheaf(x, targets[b], s, b);
                    }
                    if (t == NONE) {
                        return false;
                    }
                    steps[s * BLOCKS + b] = t;
                }
            }
            return true;
        }

        /**
         * The states to which free steps alone lead from each. One step after the other is enough: what the steps
         * before it close stays closed.
         */
        private void closeFrees(Machine x) {
            for (int q = 0; q < x.states; q++) {
                closures[q] = 1L << q;
            }
            for (int i = 0; i < x.frees; i++) {
                long more = closures[x.freeTos[i]];
                for (int q = 0; q < x.states; q++) {
                    if ((closures[q] >>> x.freeFroms[i] & 1L) == 1L) {
                        closures[q] |= more;
                    }
                }
            }
        }

        private void findTargets(Machine x, int s) {
            Arrays.fill(targets, 0L);
            for (int e = 0; e < x.edges; e++) {
                if ((bits[s] >>> x.froms[e] & 1L) == 0L) {
                    continue;
                }
                long more = closures[x.tos[e]];
                for (int b = 0; b < blocks; b++) {
                    if (x.edgeHas(e, b)) {
                        targets[b] |= more;
                    }
                }
            }
        }

        private int sheafWith(long stateBits) {
            for (int s = 0; s < sheaves; s++) {
                if (bits[s] == stateBits) {
                    return s;
                }
            }
            return NONE;
        }

        private int addSheaf(Machine x, long stateBits, int parent, int via) {
            if (sheaves >= SHEAVES) {
                return NONE;
            }
            int s = sheaves;
            sheaves++;
            bits[s] = stateBits;
            parents[s] = parent;
            vias[s] = via;
            depths[s] = parent < 0 ? 0 : depths[parent] + 1;
            if ((stateBits & x.endBits) != 0L) {
                takingBits |= 1L << s;
            }
            return s;
        }

        /** Round n parts the sheaves that words of n letters part. */
        void findClasses() {
            Arrays.fill(apart, NONE);
            classes = 1;
            lastRound = 0;
            boolean parted = true;
            for (int round = 0; parted && round <= SHEAVES; round++) {
                int before = classes;
                System.arraycopy(kinds, 0, olderKinds, 0, SHEAVES);
                partSheaves(round);
                parted = classes > before;
                if (parted) {
                    lastRound = round;
                    noteApart(round);
                }
            }
        }

        private void partSheaves(int round) {
            classes = 0;
            for (int s = 0; s < sheaves; s++) {
                int c = 0;
                while (c < classes && !areAlike(s, heads[c], round)) {
                    c++;
                }
                if (c == classes) {
                    heads[c] = s;
                    classes++;
                }
                kinds[s] = c;
            }
        }

        private boolean areAlike(int s, int t, int round) {
            if (round == 0) {
                return sheafTakes(s) == sheafTakes(t);
            }
            boolean alike = olderKinds[s] == olderKinds[t];
            for (int b = 0; alike && b < blocks; b++) {
                alike = olderKinds[sheafStep(s, b)] == olderKinds[sheafStep(t, b)];
            }
            return alike;
        }

        private void noteApart(int round) {
            for (int s = 0; s < sheaves; s++) {
                for (int t = 0; t < sheaves; t++) {
                    if (kinds[s] != kinds[t] && apart[s * SHEAVES + t] == NONE) {
                        apart[s * SHEAVES + t] = round;
                    }
                }
            }
        }

        int sheafStep(int s, int b) {
            return steps[s * BLOCKS + b];
        }

        boolean sheafTakes(int s) {
            return (takingBits >>> s & 1L) == 1L;
        }

        int classStep(int c, int b) {
            return kinds[sheafStep(heads[c], b)];
        }

        boolean classTakes(int c) {
            return sheafTakes(heads[c]);
        }

        int classesApart(int c, int d) {
            return apart[heads[c] * SHEAVES + heads[d]];
        }

        int deadClass() {
            for (int c = 0; c < classes; c++) {
                if (!classTakes(c) && classesAfter(1L << c) == 1L << c) {
                    return c;
                }
            }
            return NO_WORD;
        }

        private long classesAfter(long some) {
            long after = 0L;
            for (int c = 0; c < classes; c++) {
                for (int b = 0; (some >>> c & 1L) == 1L && b < blocks; b++) {
                    after |= 1L << classStep(c, b);
                }
            }
            return after;
        }

        /** The block of the i-th letter of a sheaf's first word. */
        int blockOnWay(int s, int i) {
            int now = s;
            for (int turn = depths[s] - 1; turn > i && parents[now] >= 0; turn--) {
                now = parents[now];
            }
            return Math.max(vias[now], 0);
        }

        /** The block of the i-th letter of the first word that parts two classes. */
        int partingBlock(int c, int d, int i) {
            int s = heads[c];
            int t = heads[d];
            int b = 0;
            for (int turn = 0; turn <= i && turn < SHEAVES; turn++) {
                int left = apart[s * SHEAVES + t] - 1;
                b = 0;
                while (b + 1 < blocks && apart[sheafStep(s, b) * SHEAVES + sheafStep(t, b)] != left) {
                    b++;
                }
                s = sheafStep(s, b);
                t = sheafStep(t, b);
            }
            return b;
        }

        /** A word with as many letters as there are classes comes to some class twice. */
        int longestTaken() {
            int dead = deadClass();
            long live = dead < 0 ? ~0L : ~(1L << dead);
            int best = NO_WORD;
            long now = 1L;
            for (int n = 0; n < classes; n++) {
                for (int c = 0; c < classes; c++) {
                    if ((now >>> c & 1L) == 1L && classTakes(c)) {
                        best = n;
                    }
                }
                now = classesAfter(now);
            }
            return (now & live) != 0L ? NO_END : best;
        }
    }

    /** The pairs of classes of two machines to which words lead, by their first words. */
    private static final class Pairs {
        final Draft draft;
        final int[] numbers = new int[PAIRS];
        final int[] ofFirst = new int[PAIRS];
        final int[] ofSecond = new int[PAIRS];
        final int[] parents = new int[PAIRS];
        final int[] vias = new int[PAIRS];
        final int[] depths = new int[PAIRS];
        /** For each block of the draft that of the first machine, of the second. */
        final int[] inFirst = new int[DRAFT_BLOCKS];
        final int[] inSecond = new int[DRAFT_BLOCKS];
        int used;

        Pairs(Draft draft) {
            this.draft = draft;
        }

        /** The first pair of which f is true; NONE without one. */
        int firstOf(Machine x, Machine y, int f) {
            begin(x, y);
            for (int p = 0; p < PAIRS && p < used; p++) {
                if (isTrueOf(x, y, f, p)) {
                    return p;
                }
                widen(x, y, p);
            }
            return NONE;
        }

        /** The draft is the machine of all pairs; false if they are too many. */
        boolean drawAll(Machine x, Machine y, int f) {
            begin(x, y);
            for (int p = 0; p < STATES && p < used; p++) {
                widen(x, y, p);
            }
            if (used > STATES) {
                return false;
            }
            draft.states = used;
            for (int p = 0; p < used; p++) {
                for (int b = 0; b < draft.blocks; b++) {
                    draft.lead(p, numbers[keyAfter(x, y, p, b)], b);
                }
                if (isTrueOf(x, y, f, p)) {
                    draft.endBits |= 1L << p;
                }
            }
            return true;
        }

        int letterOnWay(int p, int i) {
            int now = p;
            for (int turn = depths[p] - 1; turn > i && parents[now] >= 0; turn--) {
                now = parents[now];
            }
            return draft.starts[Math.max(vias[now], 0)];
        }

        private void begin(Machine x, Machine y) {
            draft.begin(1);
            draft.cutLike(x, 0);
            draft.cutLike(y, 0);
            for (int b = 0; b < draft.blocks; b++) {
                inFirst[b] = x.blockOf(draft.starts[b]);
                inSecond[b] = y.blockOf(draft.starts[b]);
            }
            Arrays.fill(numbers, NONE);
            used = 0;
            add(0, NONE, NONE);
        }

        private boolean isTrueOf(Machine x, Machine y, int f, int p) {
            return isTrue(f, x.paths.classTakes(ofFirst[p]), y.paths.classTakes(ofSecond[p]));
        }

        private int keyAfter(Machine x, Machine y, int p, int b) {
            return x.paths.classStep(ofFirst[p], inFirst[b]) * SHEAVES
                    + y.paths.classStep(ofSecond[p], inSecond[b]);
        }

        private void widen(Machine x, Machine y, int p) {
            for (int b = 0; b < draft.blocks; b++) {
                int key = keyAfter(x, y, p, b);
                if (numbers[key] == NONE) {
                    add(key, p, b);
                }
            }
        }

        private void add(int key, int parent, int via) {
            if (used >= PAIRS) {
                return;
            }
            numbers[key] = used;
            ofFirst[used] = key / SHEAVES;
            ofSecond[used] = key % SHEAVES;
            parents[used] = parent;
            vias[used] = via;
            depths[used] = parent < 0 ? 0 : depths[parent] + 1;
            used++;
        }
    }

    /** How many words of some letters are taken from each sheaf on. */
    private static final class Counts {
        final long[] table = new long[(LONGEST_COUNTED + 1) * SHEAVES];

        void fill(Machine x, int most) {
            for (int s = 0; s < x.paths.sheaves; s++) {
                table[s] = x.paths.sheafTakes(s) ? 1L : 0L;
            }
            for (int n = 1; n <= most && n <= LONGEST_COUNTED; n++) {
                for (int s = 0; s < x.paths.sheaves; s++) {
                    long sum = 0L;
                    for (int b = 0; b < x.blocks; b++) {
                        sum += x.lengthOf(b) * behindSheaf(n - 1, x.paths.sheafStep(s, b));
                    }
                    table[n * SHEAVES + s] = sum;
                }
            }
        }

        long behindSheaf(int n, int s) {
            return table[n * SHEAVES + s];
        }

        /** How many words as long as one that come ahead of it are taken. */
        long aheadOf(Machine x, int[] word, int length) {
            long sum = 0L;
            int s = 0;
            for (int i = 0; i < length && i < word.length; i++) {
                int last = x.blockOf(word[i]);
                for (int b = 0; b <= last; b++) {
                    int less = Math.min(x.endOf(b), word[i]) - x.starts[b];
                    sum += less * behindSheaf(length - 1 - i, x.paths.sheafStep(s, b));
                }
                s = x.paths.sheafStep(s, last);
            }
            return sum;
        }

        /** The i-th letter of the k-th word that is taken; there is such a word. */
        int letterOfKth(Machine x, int length, long k, int i) {
            long left = k;
            int s = 0;
            int letter = NONE;
            for (int n = length - 1; n >= length - 1 - i && n >= 0; n--) {
                int b = 0;
                long each = behindSheaf(n, x.paths.sheafStep(s, 0));
                while (b + 1 < x.blocks && left >= x.lengthOf(b) * each) {
                    left -= x.lengthOf(b) * each;
                    b++;
                    each = behindSheaf(n, x.paths.sheafStep(s, b));
                }
                if (each <= 0L) {
                    return NONE;
                }
                letter = x.starts[b] + (int) (left / each);
                left = left % each;
                s = x.paths.sheafStep(s, b);
            }
            return letter;
        }
    }

    /** The blocks of a machine, put together if just the same edges from a state have them. */
    private static final class Minterms {
        final int[] groupOf = new int[BLOCKS];
        final int[] renamed = new int[2 * BLOCKS];
        int groups;

        void group(Machine x, int q) {
            Arrays.fill(groupOf, 0);
            groups = 1;
            for (int e = 0; e < x.edges; e++) {
                if (x.froms[e] == q) {
                    partBy(x, e);
                }
            }
        }

        /** Numbers come by first blocks, so groups are by their least letters. */
        private void partBy(Machine x, int e) {
            Arrays.fill(renamed, NONE);
            groups = 0;
            for (int b = 0; b < x.blocks; b++) {
                int key = 2 * groupOf[b] + (x.edgeHas(e, b) ? 1 : 0);
                if (renamed[key] == NONE) {
                    renamed[key] = groups;
                    groups++;
                }
                groupOf[b] = renamed[key];
            }
        }

        /** The first block of a group. */
        int leaderOf(Machine x, int group) {
            int b = 0;
            while (b + 1 < x.blocks && groupOf[b] != group) {
                b++;
            }
            return b;
        }

        int amountOf(Machine x, int group) {
            int sum = 0;
            for (int b = 0; b < x.blocks; b++) {
                if (groupOf[b] == group) {
                    sum += x.lengthOf(b);
                }
            }
            return sum;
        }
    }
}
