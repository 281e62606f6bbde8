import java.lang.management.ManagementFactory;

/** What an object takes of the room, and that its calls take nothing more. */
public final class RoomTest {
    private static final com.sun.management.ThreadMXBean THREADS =
            (com.sun.management.ThreadMXBean) ManagementFactory.getThreadMXBean();

    public static void main(String[] args) {
        calls(new RangedMachines());
        THREADS.getCurrentThreadAllocatedBytes();
        long before = THREADS.getCurrentThreadAllocatedBytes();
        RangedMachines x = new RangedMachines();
        long made = THREADS.getCurrentThreadAllocatedBytes();
        long sum = calls(x);
        long after = THREADS.getCurrentThreadAllocatedBytes();
        System.out.println("an object: " + (made - before) + " bytes; its calls: " + (after - made) + " (" + sum + ")");
        // 7.3 million elements are the room of a whole run: an object may take a tenth
        Bench.due("bytes of an object are few", made - before < 8 * 730_000 / 2 ? 1 : 0, 1);
        Bench.due("bytes of calls", after - made, 0);
        Bench.end();
    }

    private static long calls(RangedMachines x) {
        long sum = 0;
        for (int round = 0; round < 5; round++) {
            // "set a [1..9];machine 3;edge 0 1 a|[20];edge 1 2 !a;end 2;free 2 0" and blanks
            sum += x.feed(0x73657420, 0x61205b31, 0x2e2e395d, 0x3b6d6163, 0x68696e65);
            sum += x.feed(0x20333b65, 0x64676520, 0x30203120, 0x617c5b32, 0x305d3b65);
            sum += x.feed(0x64676520, 0x31203220, 0x21613b65, 0x6e642032, 0x3b667265);
            sum += x.feed(0x65203220, 0x30202020, 0x20202020, 0x20202020, 0x20202020);
            Bench.due("bench", x.bench(80), 1);
            sum += x.sure(0) + x.least(0) + x.other(0) + x.join(0, 1, 6) + x.behind(0, 0) + x.again(0) + x.backwards(0);
            sum += x.only(0, 0) + x.moved(0, 5) + x.drop() + x.past(0, 3) + x.twin(1);
            sum += x.found(0, 3, 6) + x.foundLetter(0, 3, 6, 0) + x.same(0, 1) + x.within(0, 1);
            sum += x.word(2, 5, 0, 0, 0) + x.more(5) + x.taken(0) + x.leads(0) + x.classOf(0) + x.place(0);
            sum += x.count(0, 3) + x.at(0, 3, 5, 1) + x.longest(0) + x.rounds(0) + x.parting(0, 0, 1);
            sum += x.partingLetter(0, 0, 1, 0) + x.first(0, 1) + x.firstLetter(0, 1, 0) + x.dead(0) + x.takes(0, 1);
            sum += x.go(0, 0, 7) + x.terms(0, 0) + x.term(0, 0, 1, 1) + x.useless(0) + x.sheaf(0, 1) + x.block(0, 1);
            sum += x.ends(0) + x.free(0, 0, true) + x.edgeRange(0, 0, 0, true) + x.edge(0, 0, 3) + x.size(0, 6);
            sum += x.mixedRange(0, 0, 1, 0, true) + x.mixedRanges(0, 0, 1) + x.mixed(0, 0, 1) + x.has(0, 4);
            sum += x.letters(0) + x.range(0, 0, true) + x.ranges(0) + x.where() + x.fault() + x.trouble();
            sum += x.total(2) + x.letter(0);
        }
        return sum;
    }
}
