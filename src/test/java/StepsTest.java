/** Promise 5, fault 11 and the answer 12; and count(3): the longest way. */
public final class StepsTest {
    private static final int[] PUSH = Op.op(Op.PUSH, 1), STORE = Op.op(Op.STORE, 0), LEAVE = Op.op(Op.LEAVE);
    private static final Check check = new Check("StepsTest");

    public static void main(String[] args) {
        ways();
        loops();
        limits();
        unitsThatAreBegun();
        fullUnit();
        check.end();
    }

    private static void steps(String what, int due, int[]... rows) {
        ScanMachine x = Op.program(16, rows);
        check.same("start() of " + what, x.start(), 0);
        check.same("count(3) of " + what, x.count(3), due);
    }

    private static int[] count(int counter, int times) {
        return Op.op(Op.COUNT, counter, times);
    }

    private static int[] next(int counter, int behind) {
        return Op.op(Op.NEXT, counter, behind);
    }

    private static int[] back(int to) {
        return Op.op(Op.BACK, to);
    }

    private static void ways() {
        steps("nothing", 0);
        steps("three", 3, PUSH, STORE, LEAVE);
        steps("what is behind LEAVE", 1, LEAVE, PUSH, STORE);
        steps("what a GO leaves out", 1, Op.op(Op.GO, 3), PUSH, STORE);
        steps("an UNLESS with a longer way on", 4, PUSH, Op.op(Op.UNLESS, 4), PUSH, STORE);
        steps("an UNLESS with a longer way there", 4, PUSH, Op.op(Op.UNLESS, 3), LEAVE, PUSH, STORE);
    }

    private static void loops() {
        steps("a loop of 0 times", 2, count(8, 0), next(8, 5), PUSH, STORE, back(1));
        steps("a loop of 1 time", 6, count(8, 1), next(8, 5), PUSH, STORE, back(1));
        steps("a loop of 10 times", 42, count(8, 10), next(8, 5), PUSH, STORE, back(1));
        steps("a loop that is always left", 3, count(8, 10), next(8, 4), LEAVE, back(1), PUSH, STORE);
        steps("a loop that is never begun and always left", 4, count(8, 0), next(8, 4), LEAVE, back(1), PUSH, STORE);
        steps("a loop that is always left by GO", 5, count(8, 10), next(8, 4), Op.op(Op.GO, 4), back(1), PUSH, STORE);
        // Each time is NEXT, PUSH, UNLESS, BACK; in the last one LEAVE is behind seven instructions more.
        steps("a loop that is left on a longer way", 1 + 2 * 4 + 3 + 7,
                count(8, 3), next(8, 5), PUSH, Op.op(Op.UNLESS, 6), back(1),
                LEAVE, PUSH, STORE, PUSH, STORE, PUSH, STORE, LEAVE);
        steps("a loop that is left on a shorter way", 1 + 3 * 4 + 1 + 4,
                count(8, 3), next(8, 5), PUSH, Op.op(Op.UNLESS, 9), back(1), PUSH, STORE, PUSH, STORE);
        // The inner loop: 1 + 3 * 2 + 1 steps; the outer one: 4 times that and NEXT and BACK.
        steps("a loop in a loop", 1 + 4 * (1 + 8 + 1) + 1, count(8, 4), next(8, 6), count(9, 3), next(9, 5), back(3), back(1));
        // Inner: COUNT, NEXT, GO out of it to the outer BACK.
        steps("an inner loop that is always left", 1 + 4 * (1 + 3 + 1) + 1,
                count(8, 4), next(8, 7), count(9, 3), next(9, 6), Op.op(Op.GO, 6), back(3), back(1));
        steps("an inner loop that leaves both", 5 + 2,
                count(8, 4), next(8, 7), count(9, 3), next(9, 6), Op.op(Op.GO, 7), back(3), back(1), PUSH, STORE);
    }

    private static void limits() {
        ScanMachine x = Op.program(16, count(8, 9_999), next(8, 3), back(1));
        check.same("20000 steps", x.start(), 0);
        check.same("count(3)", x.count(3), 20_000);
        check.same("scan()", x.scan(0), 20_000);
        check.same("count(0)", x.count(0), 20_000);
        x = Op.program(16, count(8, 9_999), next(8, 3), back(1), LEAVE);
        check.same("20001 steps", x.start(), 12);
        check.same("scan() behind 12", x.scan(0), -1);
        check.same("get() behind 12", x.get(0), -1);
        check.same("count(3) behind 12", x.count(3), 0);

        check.same("a million times", Op.faultOf(16, count(8, 1_000_000), next(8, 3), back(1)), 12);
        check.same("a million times a million", Op.faultOf(16, count(8, 1_000_000), next(8, 6), count(9, 1_000_000),
                next(9, 5), back(3), back(1)), 11);
        check.same("a million times a million in a loop of 0 times", Op.faultOf(16, count(7, 0), next(7, 9),
                count(8, 1_000_000), next(8, 8), count(9, 1_000_000), next(9, 7), back(5), back(3), back(1)), 0);
        // 1 + 1000 * (1 + (1 + 499998 * 2 + 1) + 1) + 1 = 1,000,000,002 with 499,998; 999,998,002 with 499,997.
        check.same("1000000002 steps", thousandTimes(499_998), 11);
        check.same("999998002 steps", thousandTimes(499_997), 12);
        check.same("1000000000 steps", filledUp(1_998), 12);
        check.same("1000000001 steps", filledUp(1_999), 11);
        deepNest();
    }

    private static int thousandTimes(int inner) {
        return Op.faultOf(16, count(8, 1_000), next(8, 6), count(9, inner), next(9, 5), back(3), back(1));
    }

    /** 999,998,002 steps, and so many more by one loop and single instructions. */
    private static int filledUp(int more) {
        ScanMachine x = Op.program(16, count(8, 1_000), next(8, 6), count(9, 499_997), next(9, 5), back(3), back(1));
        int times = (more - 2) / 2;
        Op.addAll(x, count(8, times), next(8, 9), back(7));
        for (int left = more - 2 - 2 * times; left > 0; left--) {
            Op.addAll(x, LEAVE);
        }
        return x.start();
    }

    private static void deepNest() {
        int[][] rows = new int[3 * 85][];
        for (int k = 0; k < 85; k++) {
            rows[2 * k] = count(k, 1_000_000);
            rows[2 * k + 1] = next(k, 255 - k);
            rows[254 - k] = back(2 * k + 1);
        }
        check.same("85 loops in one another", Op.faultOf(100, rows), 11);
    }

    private static void unitsThatAreBegun() {
        ScanMachine x = new ScanMachine();
        x.unit(4, -1);
        Op.addAll(x, PUSH, STORE);
        x.unit(8, 32);
        Op.addAll(x, Op.op(Op.ENTER, 0, 0), Op.op(Op.ENTER, 0, 4), LEAVE);
        x.unit(8, 0);
        Op.addAll(x, Op.op(Op.CALL, 1), Op.op(Op.ENTER, 0, 0), count(7, 2), next(7, 6), Op.op(Op.CALL, 1), back(3));
        check.same("start()", x.start(), 0);
        check.same("count(3)", x.count(3), (1 + 7) + (1 + 2) + 1 + 2 * (1 + 8 + 1) + 1);
        check.same("scan()", x.scan(0), x.count(3));

        // A unit that nobody begins is measured, too.
        ScanMachine y = new ScanMachine();
        y.unit(4, -1);
        Op.addAll(y, count(0, 1_000_000), next(0, 6), count(1, 1_000_000), next(1, 5), back(3), back(1));
        y.unit(4, 0);
        check.same("an idle unit of too many steps", y.start(), 11);

        // Units that double the steps: 600,000,003, and then twice that.
        ScanMachine z = new ScanMachine();
        z.unit(4, -1);
        Op.addAll(z, count(0, 1_000), next(0, 6), count(1, 299_999), next(1, 5), back(3), back(1));
        z.unit(4, 0);
        Op.addAll(z, Op.op(Op.ENTER, 0, 0));
        check.same("once", z.start(), 12);
        Op.addAll(z, Op.op(Op.ENTER, 0, 0));
        check.same("twice", z.start(), 11);

        // What is long alone does not matter, as long as the program does not begin it.
        ScanMachine w = new ScanMachine();
        w.unit(4, -1);
        Op.addAll(w, count(0, 1_000_000), next(0, 3), back(1));
        w.unit(4, 0);
        Op.addAll(w, LEAVE, Op.op(Op.ENTER, 0, 0));
        check.same("an idle unit of many steps", w.start(), 0);
        check.same("count(3) beside it", w.count(3), 1);
    }

    /** All 256 instructions in one unit, whose ways go to its end. */
    private static void fullUnit() {
        int[][] rows = new int[256][];
        for (int k = 0; k < 126; k++) {
            rows[2 * k] = PUSH;
            rows[2 * k + 1] = Op.op(Op.UNLESS, 256);
        }
        rows[252] = count(8, 3);
        rows[253] = next(8, 256);
        rows[254] = Op.op(Op.GO, 255);
        rows[255] = back(253);
        ScanMachine x = Op.program(16, rows);
        check.same("the 257th instruction", x.add(Op.LEAVE, 0, 0, 0), -1);
        check.same("start() of a full unit", x.start(), 0);
        check.same("count(3) of a full unit", x.count(3), 252 + 1 + 3 * 3 + 1);
        check.same("scan() of a full unit", x.scan(0), 263);
    }
}
