/** Promise 9. */
public final class CountTest {
    private static final Check check = new Check("CountTest");

    public static void main(String[] args) {
        numbersOfScans();
        depthThroughUnits();
        scansWithoutSteps();
        check.end();
    }

    private static void counts(ScanMachine x, String when, int... due) {
        for (int which = 0; which < due.length; which++) {
            check.same("count(" + which + ") " + when, x.count(which), due[which]);
        }
        for (int wrong : new int[] {-1, 6, Integer.MIN_VALUE, Integer.MAX_VALUE}) {
            check.same("count(" + wrong + ") " + when, x.count(wrong), -1);
        }
    }

    private static void numbersOfScans() {
        // 12 / cell 0, or only two steps if cell 1 is 0
        ScanMachine x = Op.program(4, Op.op(Op.LOAD, 1), Op.op(Op.UNLESS, 6), Op.op(Op.PUSH, 12), Op.op(Op.LOAD, 0),
                Op.op(Op.TWO, 8), Op.op(Op.STORE, 2));
        counts(x, "before start()", 0, 0, 0, 0, 0, 0);
        check.same("start()", x.start(), 0);
        counts(x, "behind start()", 0, 0, 0, 6, 0, 0);
        check.same("scan(4)", x.scan(4), 2);
        counts(x, "behind a short scan", 2, 1, 0, 6, 4, 1);
        x.set(1, 1);
        check.same("scan(5)", x.scan(5), -2);
        counts(x, "behind a fault", 5, 2, 1, 6, 9, 2);
        x.set(0, 5);
        check.same("scan(0)", x.scan(0), 6);
        counts(x, "behind a long scan", 6, 3, 1, 6, 9, 2);
        check.same("get(2)", x.get(2), 2);
        check.same("scan(-1)", x.scan(-1), -1);
        check.same("scan(100000001)", x.scan(100_000_001), -1);
        counts(x, "behind BAD scans", 6, 3, 1, 6, 9, 2);
        x.set(1, 0);
        check.same("scan(1)", x.scan(1), 2);
        counts(x, "behind a short scan again", 2, 4, 1, 6, 10, 1);
        check.same("start() again", x.start(), 0);
        counts(x, "behind start() again", 0, 0, 0, 6, 0, 0);
        x.scan(9);
        x.add(99, 0, 0, 0);
        counts(x, "behind add()", 0, 0, 0, 0, 0, 0);
        check.same("start() with a fault", x.start(), 2);
        counts(x, "behind a fault of the code", 0, 0, 0, 0, 0, 0);
    }

    private static void depthThroughUnits() {
        ScanMachine x = new ScanMachine();
        x.unit(1, -1);
        for (int k = 0; k < 20; k++) {
            x.add(Op.PUSH, k, 0, 0);
        }
        for (int k = 0; k < 20; k++) {
            x.add(Op.STORE, 0, 0, 0);
        }
        x.unit(2, 0);
        for (int k = 0; k < 60; k++) {
            x.add(Op.PUSH, k, 0, 0);
        }
        x.add(Op.ENTER, 0, 1, 0);
        for (int k = 0; k < 60; k++) {
            x.add(Op.STORE, 0, 0, 0);
        }
        check.same("start()", x.start(), 0);
        check.same("scan()", x.scan(0), 161);
        check.same("count(5) of 60 and 20", x.count(5), 80);
        check.same("count(3)", x.count(3), 161);
    }

    private static void scansWithoutSteps() {
        ScanMachine x = Op.program(4);
        check.same("start() without instructions", x.start(), 0);
        check.same("scan(3)", x.scan(3), 0);
        counts(x, "behind a scan without steps", 0, 1, 0, 0, 3, 0);
        check.same("scan(4)", x.scan(4), 0);
        counts(x, "behind another one", 0, 2, 0, 0, 7, 0);
    }
}
