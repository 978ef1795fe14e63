/** The boundary sentences of promise 5: what it answers, and how long scans may be run. */
public final class EdgesOfStartTest extends Edges {
    public static void main(String[] args) {
        check = new Check("EdgesOfStartTest");
        withoutAUnit();
        eachFault();
        until();
        butThoseThatAreBad();
        zeroAgain();
        check.end();
    }

    private static void withoutAUnit() {
        check.about("13 without a unit");
        ScanMachine x = new ScanMachine();
        check.same("start() of a new one", x.start(), 13);
        check.same("start() again", x.start(), 13);
        check.same("scan() behind it", x.scan(0), BAD);
        check.same("a BAD unit", x.unit(4097, 0), BAD);
        check.same("start() behind a BAD unit", x.start(), 13);
        check.same("unit()", x.unit(0, 0), 0);
        check.same("start() with a unit that has nothing", x.start(), 0);
        check.same("scan() of that", x.scan(0), 0);
        x.begin(4096);
        check.same("start() behind begin()", x.start(), 13);
        check.same("scan() behind begin()", x.scan(0), BAD);
    }

    private static void eachFault() {
        check.about("The code is proved: 0, or its first fault");
        int[][][] rows = {
            {leave()}, null, {Op.op(19)}, {call(0)}, {load(16)}, {load(0), count(0, 0)}, {go(0)}, {count(0, 0)}, {store(0)},
            {}, {push(0)}, {count(0, 1_000_000), next(0, 6), count(1, 1_000_000), next(1, 5), back(3), back(1)},
            {count(0, 1_000_000), next(0, 3), back(1)}};
        for (int fault = 0; fault < rows.length; fault++) {
            ScanMachine x = cells(16);
            unit(x, 16, fault == 1 ? 1 : 0, rows[fault] == null ? new int[0][] : rows[fault]);
            for (int k = 0; fault == 9 && k < 65; k++) {
                Op.addAll(x, push(0));
            }
            check.same("start() of fault " + fault, x.start(), fault);
            check.same("start() of fault " + fault + " again", x.start(), fault);
            check.same("scan() behind fault " + fault, x.scan(0) == BAD ? 1 : 0, fault == 0 ? 0 : 1);
            check.same("get() behind fault " + fault, x.get(0), fault == 0 ? 0 : BAD);
            check.same("begin() behind fault " + fault, x.begin(16), 16);
            unit(x, 16, 0, push(1), store(0));
            check.same("start() of other code behind fault " + fault, x.start(), 0);
        }
    }

    /** A machine whose program has been run twice, the second time with a fault. */
    private static ScanMachine busy() {
        ScanMachine x = started(load(1), store(0), push(8), load(2), two(8), store(3));
        x.set(1, 5);
        x.set(2, 4);
        check.same("a scan", x.scan(30), 6);
        x.set(2, 0);
        check.same("a scan with a fault", x.scan(40), ZERO);
        counts(x, "of a busy one", 5, 2, 1, 6, 70, 2);
        check.same("a cell of a busy one", x.get(0), 5);
        return x;
    }

    private static void until() {
        check.about("If it is 0, scans may be run, until start(), begin(), unit() or add() (but those that are BAD) come");
        ScanMachine begun = busy();
        begun.begin(16);
        ScanMachine longer = busy();
        longer.unit(0, 0);
        ScanMachine added = busy();
        added.add(Op.LEAVE, 0, 0, 0);
        for (ScanMachine x : new ScanMachine[] {begun, longer, added}) {
            check.same("scan()", x.scan(0), BAD);
            check.same("set()", x.set(0, 1), BAD);
            check.same("get()", x.get(0), BAD);
            check.same("count(3)", x.count(3), 0);
        }
        check.same("start() behind begin()", begun.start(), 13);
        check.same("start() behind unit()", longer.start(), 0);
        check.same("start() behind add()", added.start(), 0);
        check.same("count(3) behind unit()", longer.count(3), 0);
        check.same("count(3) behind add()", added.count(3), 7);
        ScanMachine again = busy();
        check.same("start() again", again.start(), 0);
        check.same("scan() behind it", again.scan(0), ZERO);
        ScanMachine wrong = busy();
        wrong.add(Op.PUSH, 0, 0, 0);
        check.same("start() that is not 0", wrong.start(), 10);
        check.same("scan() behind it", wrong.scan(0), BAD);
    }

    private static void butThoseThatAreBad() {
        check.about("(but those that are BAD)");
        ScanMachine x = busy();
        for (int t : new int[] {0, 4097}) {
            check.same("begin(" + t + ")", x.begin(t), BAD);
        }
        int[][] units = {{-1, 0}, {4097, 0}, {0, -2}, {0, 4096}};
        for (int[] each : units) {
            check.same("unit()", x.unit(each[0], each[1]), BAD);
        }
        counts(x, "behind BAD ones", 5, 2, 1, 6, 70, 2);
        check.same("get(0)", x.get(0), 5);
        x.set(2, 2);
        check.same("scan()", x.scan(1), 6);
        check.same("get(3)", x.get(3), 4);
        check.same("count(4)", x.count(4), 71);

        ScanMachine full = cells(16);
        for (int u = 0; u < 15; u++) {
            unit(full, 0, 0);
        }
        unit(full, 16, 0);
        for (int k = 0; k < 128; k++) {
            Op.addAll(full, push(k), store(0));
        }
        check.same("start() of a full one", full.start(), 0);
        check.same("scan() of a full one", full.scan(5), 256);
        check.same("a 17th unit", full.unit(0, 0), BAD);
        check.same("a 257th instruction", full.add(Op.LEAVE, 0, 0, 0), BAD);
        counts(full, "of a full one", 256, 1, 0, 256, 5, 1);
        check.same("get(0) of a full one", full.get(0), 127);
        check.same("scan() of a full one again", full.scan(5), 256);
    }

    private static void zeroAgain() {
        check.about("with each of these all cells, NOW, and what count() tells of scans, are 0 again");
        ScanMachine begun = busy();
        begun.begin(16);
        counts(begun, "behind begin()", 0, 0, 0, 0, 0, 0);
        unit(begun, 16, 0, leave());
        ScanMachine longer = busy();
        longer.unit(16, 0);
        counts(longer, "behind unit()", 0, 0, 0, 0, 0, 0);
        longer.begin(16);
        longer.unit(16, 0);
        ScanMachine added = busy();
        added.add(Op.LEAVE, 0, 0, 0);
        counts(added, "behind add()", 0, 0, 0, 0, 0, 0);
        ScanMachine again = busy();
        for (ScanMachine x : new ScanMachine[] {begun, longer, added, again}) {
            check.same("start()", x.start(), 0);
            for (int cell = 0; cell < 16; cell++) {
                check.same("get(" + cell + ") behind start()", x.get(cell), 0);
            }
            counts(x, "behind start()", 0, 0, 0, x.count(3), 0, 0);
        }
        // all 4096 of them, and those of no unit
        ScanMachine wide = cells(4096);
        unit(wide, 1, 0);
        check.same("start() with 4096", wide.start(), 0);
        for (int cell = 0; cell < 4096; cell += 455) {
            check.same("set(" + cell + ")", wide.set(cell, 7), 0);
        }
        check.same("start() with 4096 again", wide.start(), 0);
        for (int cell = 0; cell < 4096; cell += 455) {
            check.same("get(" + cell + ")", wide.get(cell), 0);
        }
        // a block's L is 0 again, as NOW is
        ScanMachine timer = started(block(0, 0));
        timer.set(0, 1);
        timer.set(1, 10);
        timer.scan(100);
        timer.scan(5);
        check.same("ET", timer.get(3), 5);
        check.same("start() of a timer again", timer.start(), 0);
        timer.set(0, 1);
        timer.set(1, 10);
        timer.scan(3);
        timer.scan(4);
        check.same("ET behind start()", timer.get(3), 4);
        check.same("L behind start()", timer.get(5), 7);
    }
}
