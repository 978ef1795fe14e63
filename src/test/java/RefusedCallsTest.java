import java.util.List;
import java.util.function.Supplier;

/**
 * A refused call leaves everything as it was: of two machines that had the same calls only the first one is
 * asked what must be refused, and then both answer all later calls alike.
 */
public final class RefusedCallsTest extends Edges {
    /** Asks for one thing that must be refused. */
    private interface Refused {
        int ask(ScanMachine x);
    }

    private static final int CELLS = 16;
    private static final List<Supplier<ScanMachine>> RUNNING = List.of(RefusedCallsTest::ready, RefusedCallsTest::busy,
            RefusedCallsTest::late, RefusedCallsTest::fullAndReady);
    private static final List<Supplier<ScanMachine>> NOT_RUNNING = List.of(ScanMachine::new, RefusedCallsTest::written,
            RefusedCallsTest::wrong, RefusedCallsTest::full);
    private static final List<Supplier<ScanMachine>> FULL = List.of(RefusedCallsTest::full, RefusedCallsTest::fullAndReady);

    public static void main(String[] args) {
        check = new Check("RefusedCallsTest");
        begins();
        units();
        unitsAbove16();
        adds();
        scansThatMayNotBe();
        wrongTicks();
        ticksAboveAll();
        cellsWhileNotRunning();
        wrongCells();
        countsOfAnother();
        check.end();
    }

    private static void begins() {
        check.about("begin: BAD: T is not 1 .. 4,096.");
        for (int t : new int[] {0, -1, 4097, LEAST, MOST}) {
            refused("begin(" + t + ")", RUNNING, x -> x.begin(t));
            refused("begin(" + t + ")", NOT_RUNNING, x -> x.begin(t));
        }
    }

    private static void units() {
        check.about("unit: frame is not 0 .. 4,096, or place not -1 .. 4,095.");
        int[][] units = {{-1, 0}, {4097, 0}, {LEAST, -1}, {MOST, -1}, {0, -2}, {0, 4096}, {1, LEAST}, {1, MOST}};
        for (int[] each : units) {
            refused("unit(" + named(each) + ")", RUNNING, x -> x.unit(each[0], each[1]));
            refused("unit(" + named(each) + ")", NOT_RUNNING, x -> x.unit(each[0], each[1]));
        }
    }

    private static void unitsAbove16() {
        check.about("unit: BAD: there are 16");
        refused("unit(0, 0)", FULL, x -> x.unit(0, 0));
        refused("unit(1, -1)", FULL, x -> x.unit(1, -1));
    }

    private static void adds() {
        check.about("add: BAD: no unit, or there are 256.");
        refused("add(18, 0, 0, 0) without a unit", List.of(ScanMachine::new), x -> x.add(Op.LEAVE, 0, 0, 0));
        refused("add(18, 0, 0, 0)", FULL, x -> x.add(Op.LEAVE, 0, 0, 0));
        refused("add(99, 1, 1, 1)", FULL, x -> x.add(99, 1, 1, 1));
    }

    private static void scansThatMayNotBe() {
        check.about("scan: BAD: it may not be");
        refused("scan(0)", NOT_RUNNING, x -> x.scan(0));
        refused("scan(7)", NOT_RUNNING, x -> x.scan(7));
    }

    private static void wrongTicks() {
        check.about("scan: So many ticks (0 .. 100,000,000) go by");
        for (int ticks : new int[] {-1, 100_000_001, LEAST, MOST}) {
            refused("scan(" + ticks + ")", RUNNING, x -> x.scan(ticks));
            refused("scan(" + ticks + ")", NOT_RUNNING, x -> x.scan(ticks));
        }
    }

    private static void ticksAboveAll() {
        check.about("scan: or NOW would be above 2,000,000,000.");
        refused("scan(2)", List.of(RefusedCallsTest::late), x -> x.scan(2));
        refused("scan(100000000)", List.of(RefusedCallsTest::late), x -> x.scan(100_000_000));
    }

    private static void cellsWhileNotRunning() {
        check.about("set, get: or scans may not be run");
        refused("set(0, 5)", NOT_RUNNING, x -> x.set(0, 5));
        refused("get(0)", NOT_RUNNING, x -> x.get(0));
    }

    private static void wrongCells() {
        check.about("set, get: BAD: there is none");
        for (int cell : new int[] {-1, CELLS, 4095, 4096, LEAST, MOST}) {
            refused("set(" + cell + ", 5)", RUNNING, x -> x.set(cell, 5));
            refused("get(" + cell + ")", RUNNING, x -> x.get(cell));
        }
    }

    private static void countsOfAnother() {
        check.about("count: BAD: another number.");
        for (int which : new int[] {-1, 6, LEAST, MOST}) {
            refused("count(" + which + ")", RUNNING, x -> x.count(which));
            refused("count(" + which + ")", NOT_RUNNING, x -> x.count(which));
        }
    }

    /** Cell 1 becomes cell 0 + 1; then 12 / cell 2, and a timer. */
    private static ScanMachine written() {
        ScanMachine x = cells(CELLS);
        unit(x, 2, -1, load(0), push(1), two(5), store(1));
        unit(x, CELLS, 0, enter(0, 0), block(0, 8), push(12), load(2), two(8), store(3));
        return x;
    }

    private static ScanMachine wrong() {
        ScanMachine x = written();
        x.start();
        x.set(0, 9);
        x.add(Op.PUSH, 0, 0, 0);
        check.same("start() of a wrong one", x.start(), 10);
        return x;
    }

    private static ScanMachine ready() {
        ScanMachine x = written();
        check.same("start()", x.start(), 0);
        return x;
    }

    /** Two scans, the last one with a fault. */
    private static ScanMachine busy() {
        ScanMachine x = ready();
        x.set(0, 5);
        x.set(2, 4);
        x.set(8, 1);
        x.set(9, 30);
        check.same("scan()", x.scan(10), 10);
        x.set(2, 0);
        check.same("scan() with a fault", x.scan(10), ZERO);
        return x;
    }

    private static ScanMachine late() {
        ScanMachine x = ready();
        x.set(2, 4);
        for (int k = 0; k < 19; k++) {
            x.scan(100_000_000);
        }
        check.same("scan() to 1999999999", x.scan(99_999_999), 10);
        return x;
    }

    /** 16 units and 256 instructions. */
    private static ScanMachine full() {
        ScanMachine x = cells(CELLS);
        for (int u = 0; u < 15; u++) {
            unit(x, 1, -1, push(u), store(0));
        }
        x.unit(CELLS, 0);
        for (int k = 0; k < 113; k++) {
            Op.addAll(x, enter(k % 15, k % CELLS), block(5, 0));
        }
        return x;
    }

    private static ScanMachine fullAndReady() {
        ScanMachine x = full();
        check.same("start() of a full one", x.start(), 0);
        check.same("scan() of a full one", x.scan(3), 2 * 113 + 2 * 113);
        return x;
    }

    private static void refused(String what, List<Supplier<ScanMachine>> made, Refused refused) {
        for (Supplier<ScanMachine> each : made) {
            refusedBy(what, each, refused);
        }
    }

    private static void refusedBy(String what, Supplier<ScanMachine> made, Refused refused) {
        ScanMachine asked = made.get();
        ScanMachine other = made.get();
        check.same(what, refused.ask(asked), BAD);
        check.same(what + " again", refused.ask(asked), BAD);
        alike(what, asked, other);
        check.same(what + ", then scan(1)", asked.scan(1), other.scan(1));
        alike(what + ", then scan(1)", asked, other);
        check.same(what + ", then add()", asked.add(Op.LEAVE, 0, 0, 0), other.add(Op.LEAVE, 0, 0, 0));
        check.same(what + ", then start()", asked.start(), other.start());
        check.same(what + ", then scan(2)", asked.scan(2), other.scan(2));
        alike(what + ", then start() and scan(2)", asked, other);
        check.same(what + ", then unit()", asked.unit(CELLS, 0), other.unit(CELLS, 0));
        check.same(what + ", then add() to it", asked.add(Op.LEAVE, 0, 0, 0), other.add(Op.LEAVE, 0, 0, 0));
        check.same(what + ", then start() again", asked.start(), other.start());
        alike(what + ", then unit()", asked, other);
    }

    private static void alike(String what, ScanMachine asked, ScanMachine other) {
        for (int which = 0; which <= 5; which++) {
            check.same(what + ", then count(" + which + ")", asked.count(which), other.count(which));
        }
        for (int cell = 0; cell <= CELLS; cell++) {
            check.same(what + ", then get(" + cell + ")", asked.get(cell), other.get(cell));
        }
    }
}
