/** Promise 6: ticks, how a scan ends, and all instructions but TWO, ONE and BLOCK. */
public final class ScanTest {
    private static final int LEAST = Integer.MIN_VALUE, MOST = Integer.MAX_VALUE;
    private static final Check check = new Check("ScanTest");

    public static void main(String[] args) {
        ticks();
        arrays();
        arraysAtTheEdges();
        otherUnits();
        entered();
        choose();
        waysAndLoops();
        faultsEndAtOnce();
        deepUnits();
        check.end();
    }

    private static void ticks() {
        ScanMachine x = Op.program(8, Op.op(Op.LEAVE));
        check.same("scan() before start()", x.scan(0), -1);
        x.start();
        for (int wrong : new int[] {-1, LEAST, 100_000_001, MOST}) {
            check.same("scan(" + wrong + ")", x.scan(wrong), -1);
        }
        check.same("count(1)", x.count(1), 0);
        for (int k = 1; k <= 19; k++) {
            check.same("scan(100000000)", x.scan(100_000_000), 1);
            check.same("count(4)", x.count(4), k * 100_000_000);
        }
        check.same("scan(99999999)", x.scan(99_999_999), 1);
        check.same("scan(2) above the last tick", x.scan(2), -1);
        check.same("count(4) behind that", x.count(4), 1_999_999_999);
        check.same("scan(1)", x.scan(1), 1);
        check.same("scan(1) above the last tick", x.scan(1), -1);
        check.same("scan(0)", x.scan(0), 1);
        check.same("count(4)", x.count(4), 2_000_000_000);
        check.same("count(1) at the end", x.count(1), 22);
        x.start();
        check.same("count(4) behind start()", x.count(4), 0);
        check.same("scan(5) behind start()", x.scan(5), 1);
    }

    private static void arrays() {
        // cells 2 .. 5 are an array from 10 on; cell 0 is the index, cell 1 what is put or taken
        ScanMachine put = Op.program(8, Op.op(Op.LOAD, 0), Op.op(Op.LOAD, 1), Op.op(Op.PUT, 2, 10, 4));
        put.start();
        for (int k = 0; k < 4; k++) {
            put.set(0, 10 + k);
            put.set(1, 70 + k);
            check.same("put scan", put.scan(0), 3);
            check.same("what was put", put.get(2 + k), 70 + k);
        }
        for (int wrong : new int[] {9, 14, 0, -1, LEAST, MOST}) {
            put.set(0, wrong);
            put.set(1, 99);
            check.same("put at " + wrong, put.scan(0), -3);
            check.same("its steps", put.count(0), 3);
            for (int k = 0; k < 4; k++) {
                check.same("what stays", put.get(2 + k), 70 + k);
            }
            check.same("the cell behind", put.get(6), 0);
        }
        ScanMachine take = Op.program(8, Op.op(Op.LOAD, 0), Op.op(Op.TAKE, 2, -3, 4), Op.op(Op.STORE, 1));
        take.start();
        for (int k = 0; k < 4; k++) {
            take.set(2 + k, 50 + k);
        }
        for (int k = 0; k < 4; k++) {
            take.set(0, -3 + k);
            check.same("take scan", take.scan(0), 3);
            check.same("what was taken", take.get(1), 50 + k);
        }
        for (int wrong : new int[] {-4, 1, LEAST, MOST}) {
            take.set(0, wrong);
            check.same("take at " + wrong, take.scan(0), -3);
            check.same("its steps", take.count(0), 2);
            check.same("what stays", take.get(1), 53);
        }
    }

    /** i - b is reckoned without a bound. */
    private static void arraysAtTheEdges() {
        ScanMachine high = Op.program(8, Op.op(Op.LOAD, 0), Op.op(Op.TAKE, 1, MOST, 7), Op.op(Op.STORE, 0));
        high.start();
        high.set(0, MOST);
        high.set(1, 4);
        check.same("from the greatest", high.scan(0), 3);
        check.same("what was taken", high.get(0), 4);
        high.set(0, LEAST);
        check.same("one above the greatest does not wrap", high.scan(0), -3);
        ScanMachine low = Op.program(8, Op.op(Op.LOAD, 0), Op.op(Op.TAKE, 1, LEAST, 7), Op.op(Op.STORE, 0));
        low.start();
        low.set(0, LEAST + 6);
        low.set(7, 5);
        check.same("from the least", low.scan(0), 3);
        check.same("what was taken", low.get(0), 5);
        low.set(0, MOST);
        check.same("the greatest from the least", low.scan(0), -3);
        low.set(0, 0);
        check.same("0 from the least", low.scan(0), -3);
    }

    private static void otherUnits() {
        ScanMachine x = new ScanMachine();
        x.begin(16);
        x.unit(4, 10);
        Op.addAll(x, Op.op(Op.LOAD, 0), Op.op(Op.LOAD, 1), Op.op(Op.TWO, 6), Op.op(Op.STORE, 3));
        x.unit(4, 0);
        Op.addAll(x, Op.op(Op.LOAD, 0), Op.op(Op.WRITE, 0, 0), Op.op(Op.LOAD, 1), Op.op(Op.WRITE, 0, 1),
                Op.op(Op.CALL, 0), Op.op(Op.READ, 0, 3), Op.op(Op.STORE, 2));
        check.same("start()", x.start(), 0);
        x.set(0, 30);
        x.set(1, 12);
        check.same("scan()", x.scan(0), 11);
        check.same("get(2)", x.get(2), 18);
        check.same("get(10)", x.get(10), 30);
        check.same("get(11)", x.get(11), 12);
        check.same("get(13)", x.get(13), 18);
        check.same("count(5)", x.count(5), 2);
    }

    /** A unit without a place works in the cells of the one that enters it, however deep. */
    private static void entered() {
        ScanMachine x = new ScanMachine();
        x.begin(32);
        x.unit(2, -1);
        Op.addAll(x, Op.op(Op.LOAD, 0), Op.op(Op.PUSH, 1), Op.op(Op.TWO, 5), Op.op(Op.STORE, 0));
        x.unit(5, -1);
        Op.addAll(x, Op.op(Op.ENTER, 0, 1), Op.op(Op.ENTER, 0, 3), Op.op(Op.PUSH, 9), Op.op(Op.STORE, 0));
        x.unit(6, 20);
        Op.addAll(x, Op.op(Op.ENTER, 1, 1));
        x.unit(16, 0);
        Op.addAll(x, Op.op(Op.ENTER, 1, 4), Op.op(Op.CALL, 2), Op.op(Op.ENTER, 1, 11), Op.op(Op.PUSH, 3),
                Op.op(Op.STORE, 15));
        check.same("start()", x.start(), 0);
        check.same("scan()", x.scan(0), 13 + (1 + 13) + 13 + 2);
        check.same("scan() again", x.scan(0), 42);
        int[] due = new int[32];
        due[4] = 9;
        due[5] = 2;
        due[7] = 2;
        due[11] = 9;
        due[12] = 2;
        due[14] = 2;
        due[15] = 3;
        due[21] = 9;
        due[22] = 2;
        due[24] = 2;
        for (int cell = 0; cell < 32; cell++) {
            check.same("get(" + cell + ")", x.get(cell), due[cell]);
        }
    }

    private static void choose() {
        ScanMachine x = Op.program(4, Op.op(Op.LOAD, 0), Op.op(Op.PUSH, 11), Op.op(Op.PUSH, 22), Op.op(Op.CHOOSE),
                Op.op(Op.STORE, 1));
        x.start();
        int[][] due = {{0, 11}, {1, 22}, {-1, 22}, {LEAST, 22}};
        for (int[] pair : due) {
            x.set(0, pair[0]);
            check.same("scan()", x.scan(0), 5);
            check.same("CHOOSE by " + pair[0], x.get(1), pair[1]);
        }
    }

    private static void waysAndLoops() {
        // cell 1 becomes how often the loop was gone through; it is left when cell 0 is that
        ScanMachine x = Op.program(8, Op.op(Op.COUNT, 7, 5), Op.op(Op.NEXT, 7, 11), Op.op(Op.LOAD, 1), Op.op(Op.PUSH, 1),
                Op.op(Op.TWO, 5), Op.op(Op.STORE, 1), Op.op(Op.LOAD, 1), Op.op(Op.LOAD, 0), Op.op(Op.TWO, 14),
                Op.op(Op.UNLESS, 14), Op.op(Op.BACK, 1), Op.op(Op.PUSH, 100), Op.op(Op.STORE, 2), Op.op(Op.LEAVE),
                Op.op(Op.PUSH, 200), Op.op(Op.STORE, 2));
        check.same("start()", x.start(), 0);
        check.same("count(3)", x.count(3), 1 + 5 * 10 + 1 + 3);
        check.same("scan() to the end", x.scan(0), 55);
        check.same("times", x.get(1), 5);
        check.same("behind the loop", x.get(2), 100);
        check.same("the counter", x.get(7), 0);
        x.set(1, 0);
        x.set(0, 3);
        check.same("scan() that leaves it", x.scan(0), 1 + 2 * 10 + 9 + 2);
        check.same("times", x.get(1), 3);
        check.same("where it was left for", x.get(2), 200);
        check.same("the counter", x.get(7), 2);
        x.set(7, -5);
        x.set(1, 0);
        check.same("a counter that was set", x.scan(0), 32);

        ScanMachine y = Op.program(8, Op.op(Op.LOAD, 0), Op.op(Op.UNLESS, 4), Op.op(Op.PUSH, 1), Op.op(Op.GO, 5),
                Op.op(Op.PUSH, 2), Op.op(Op.STORE, 1));
        y.start();
        check.same("UNLESS that goes", y.scan(0), 4);
        check.same("get(1)", y.get(1), 2);
        y.set(0, -7);
        check.same("UNLESS that does not", y.scan(0), 5);
        check.same("get(1)", y.get(1), 1);

        ScanMachine z = Op.program(8, Op.op(Op.COUNT, 7, 0), Op.op(Op.NEXT, 7, 5), Op.op(Op.PUSH, 4), Op.op(Op.STORE, 0),
                Op.op(Op.BACK, 1));
        z.start();
        check.same("a loop of 0 times", z.scan(0), 2);
        check.same("get(0)", z.get(0), 0);
    }

    /** A fault two units deep ends all; what was done before it stays, and the next scan begins anew. */
    private static void faultsEndAtOnce() {
        ScanMachine x = new ScanMachine();
        x.unit(4, -1);
        Op.addAll(x, Op.op(Op.PUSH, 5), Op.op(Op.STORE, 1), Op.op(Op.PUSH, 7), Op.op(Op.LOAD, 0), Op.op(Op.TWO, 4),
                Op.op(Op.STORE, 2));
        x.unit(8, 0);
        Op.addAll(x, Op.op(Op.PUSH, 1), Op.op(Op.ENTER, 0, 4), Op.op(Op.STORE, 0));
        check.same("start()", x.start(), 0);
        check.same("scan() by 0", x.scan(2), -2);
        check.same("count(0)", x.count(0), 7);
        check.same("count(2)", x.count(2), 1);
        check.same("count(4)", x.count(4), 2);
        check.same("count(5)", x.count(5), 3);
        check.same("what was done before", x.get(5), 5);
        check.same("what was not done", x.get(0), 0);
        x.set(4, 4);
        check.same("scan() by 4", x.scan(2), 9);
        check.same("7 mod 4", x.get(6), 3);
        check.same("get(0)", x.get(0), 1);
        check.same("count(2) stays", x.count(2), 1);
        check.same("count(5)", x.count(5), 3);
    }

    /** Sixteen units, each one with 7 numbers on the stack when it begins the one before. */
    private static void deepUnits() {
        ScanMachine x = new ScanMachine();
        for (int u = 0; u < 16; u++) {
            x.unit(1, u == 15 ? 0 : -1);
            for (int k = 0; k < 7; k++) {
                x.add(Op.PUSH, 10 * u + k, 0, 0);
            }
            if (u > 0) {
                x.add(Op.ENTER, u - 1, 0, 0);
            }
            for (int k = 0; k < 7; k++) {
                x.add(Op.STORE, 0, 0, 0);
            }
        }
        check.same("start()", x.start(), 0);
        check.same("scan()", x.scan(0), 16 * 14 + 15);
        check.same("count(5)", x.count(5), 112);
        check.same("the first number that was pushed", x.get(0), 150);
    }
}
