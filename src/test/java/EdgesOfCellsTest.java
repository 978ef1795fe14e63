/** The boundary sentences of promises 1, 2, 7 and 8, and of an object's life. */
public final class EdgesOfCellsTest extends Edges {
    public static void main(String[] args) {
        check = new Check("EdgesOfCellsTest");
        life();
        newObject();
        noUnits();
        cellsOfBegin();
        begins();
        sets();
        gets();
        minusOne();
        notRunning();
        check.end();
    }

    private static void life() {
        check.about("An object is used for at most 512 calls after it has been made");
        ScanMachine x = new ScanMachine();
        x.unit(64, 0);
        for (int k = 0; k < 252; k++) {
            x.add(Op.PUSH + 2 * (k % 2), 60, 0, 0);
        }
        check.same("call 254, start()", x.start(), 0);
        for (int k = 255; k <= 511; k++) {
            check.same("call " + k, x.scan(k), 252);
        }
        check.same("call 512", x.count(1), 257);
    }

    private static void newObject() {
        check.about("As behind begin(64).");
        ScanMachine made = new ScanMachine();
        ScanMachine begun = new ScanMachine();
        begun.begin(64);
        for (ScanMachine x : new ScanMachine[] {made, begun}) {
            counts(x, "at first", 0, 0, 0, 0, 0, 0);
            check.same("start() without a unit", x.start(), 13);
            check.same("add() without a unit", x.add(0, 0, 0, 0), BAD);
            check.same("unit(65, 0)", x.unit(65, 0), 0);
            check.same("start() with 65 cells", x.start(), 1);
            check.same("begin() once more", x.begin(64), 64);
            check.same("unit(64, 0)", x.unit(64, 0), 0);
            check.same("start() with 64 cells", x.start(), 0);
        }
        ScanMachine last = new ScanMachine();
        last.unit(64, 0);
        check.same("start() of a new one", last.start(), 0);
        check.same("set(63, 1)", last.set(63, 1), 0);
        check.same("set(64, 1)", last.set(64, 1), BAD);
        ScanMachine other = new ScanMachine();
        other.unit(65, 0);
        check.same("start() with 65 cells in a new one", other.start(), 1);
    }

    private static void noUnits() {
        check.about("No units; T cells, all 0: T.");
        ScanMachine x = cells(5);
        unit(x, 5, 0, push(7), store(4));
        check.same("start()", x.start(), 0);
        check.same("scan(9)", x.scan(9), 2);
        check.same("begin(5)", x.begin(5), 5);
        check.same("start() behind it", x.start(), 13);
        check.same("add() behind it", x.add(0, 0, 0, 0), BAD);
        check.same("unit() behind it", x.unit(5, 0), 0);
        check.same("start() of that", x.start(), 0);
        for (int cell = 0; cell < 5; cell++) {
            check.same("get(" + cell + ")", x.get(cell), 0);
        }
        counts(x, "behind it", 0, 0, 0, 0, 0, 0);
    }

    private static void cellsOfBegin() {
        check.about("T CELLS 0 .. T - 1");
        for (int t : new int[] {1, 2, 63, 65, 4095, 4096}) {
            ScanMachine x = cells(t);
            unit(x, 0, 0);
            check.same("start() with " + t, x.start(), 0);
            check.same("set(0, 3) of " + t, x.set(0, 3), 0);
            check.same("set(T - 1, 4) of " + t, x.set(t - 1, 4), t == 1 ? 3 : 0);
            check.same("get(T - 1) of " + t, x.get(t - 1), 4);
            check.same("set(T, 5) of " + t, x.set(t, 5), BAD);
            check.same("get(T) of " + t, x.get(t), BAD);
            check.same("set(-1, 5) of " + t, x.set(-1, 5), BAD);
            check.same("get(-1) of " + t, x.get(-1), BAD);
        }
    }

    private static void begins() {
        check.about("BAD: T is not 1 .. 4,096.");
        ScanMachine x = new ScanMachine();
        for (int t : new int[] {1, 2, 4095, 4096}) {
            check.same("begin(" + t + ")", x.begin(t), t);
        }
        for (int t : new int[] {0, -1, LEAST, 4097, MOST}) {
            check.same("begin(" + t + ")", x.begin(t), BAD);
        }
        check.same("unit() in the 4096 that stay", x.unit(4096, 0), 0);
        check.same("start()", x.start(), 0);
        check.same("the last one that stays", x.set(4095, 1), 0);
    }

    private static void sets() {
        check.about("A cell becomes v: what it was. BAD: there is none, or scans may not be run.");
        ScanMachine x = started(load(15), store(0));
        int was = 0;
        for (int v : new int[] {1, 0, -2, MOST, LEAST, 5}) {
            check.same("set(15, " + v + ")", x.set(15, v), was);
            check.same("get(15)", x.get(15), v);
            was = v;
        }
        check.same("scan() of what was set", x.scan(0), 2);
        check.same("set() of what the scan left", x.set(0, 6), 5);
        for (int none : new int[] {-1, LEAST, 16, 17, 4095, 4096, MOST}) {
            check.same("set(" + none + ", 8)", x.set(none, 8), BAD);
        }
        for (int cell = 1; cell < 15; cell++) {
            check.same("a cell beside, " + cell, x.get(cell), 0);
        }
    }

    private static void gets() {
        check.about("What a cell has. BAD: as for set().");
        ScanMachine x = started(push(11), store(15), push(12), store(0));
        check.same("scan()", x.scan(0), 4);
        check.same("get(0)", x.get(0), 12);
        check.same("get(15)", x.get(15), 11);
        check.same("get(15) again", x.get(15), 11);
        for (int none : new int[] {-1, LEAST, 16, 17, 4095, 4096, MOST}) {
            check.same("get(" + none + ")", x.get(none), BAD);
        }
    }

    private static void minusOne() {
        check.about("(A cell may have had -1, too.)");
        ScanMachine x = started(leave());
        check.same("set(3, -1)", x.set(3, -1), 0);
        check.same("get(3)", x.get(3), -1);
        check.same("set(3, 9)", x.set(3, 9), -1);
        check.same("what it became all the same", x.get(3), 9);
        check.same("set(16, 9)", x.set(16, 9), -1);
    }

    private static void notRunning() {
        check.about("BAD: there is none, or scans may not be run.");
        ScanMachine x = Op.program(16, leave());
        check.same("set() before start()", x.set(0, 5), BAD);
        check.same("get() before start()", x.get(0), BAD);
        x.start();
        check.same("what the refused one left", x.get(0), 0);
        check.same("set() behind start()", x.set(0, 5), 0);
        x.add(Op.PUSH, 0, 0, 0);
        check.same("set() behind add()", x.set(0, 6), BAD);
        check.same("get() behind add()", x.get(0), BAD);
        x.add(99, 0, 0, 0);
        check.same("start() with a fault", x.start(), 2);
        check.same("set() behind a fault", x.set(0, 6), BAD);
        check.same("get() behind a fault", x.get(0), BAD);
        x.unit(16, 0);
        x.begin(16);
        x.unit(16, 0);
        check.same("start() of another program", x.start(), 0);
        check.same("get() of a refused one", x.get(0), 0);
        x.unit(0, 0);
        check.same("get() behind unit()", x.get(0), BAD);
        x.start();
        x.begin(16);
        check.same("get() behind begin()", x.get(0), BAD);
        check.same("set() behind begin()", x.set(0, 1), BAD);
    }
}
