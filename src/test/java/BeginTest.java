/** Promise 2. */
public final class BeginTest {
    private static final Check check = new Check("BeginTest");

    public static void main(String[] args) {
        limits();
        allIsNew();
        badChangesNothing();
        check.end();
    }

    private static void limits() {
        ScanMachine x = new ScanMachine();
        for (int wrong : new int[] {0, -1, 4097, Integer.MIN_VALUE, Integer.MAX_VALUE}) {
            check.same("begin(" + wrong + ")", x.begin(wrong), -1);
        }
        for (int right : new int[] {1, 2, 64, 4095, 4096}) {
            check.same("begin(" + right + ")", x.begin(right), right);
            x.unit(right, 0);
            check.same("start() with " + right, x.start(), 0);
            check.same("the last cell of " + right, x.set(right - 1, 5), 0);
            check.same("one more than " + right, x.set(right, 5), -1);
            x.begin(right);
            x.unit(right + 1, 0);
            check.same("a frame above " + right, right == 4096 ? x.unit(0, 0) : x.start(), right == 4096 ? 0 : 1);
        }
    }

    private static void allIsNew() {
        ScanMachine x = Op.program(10, Op.op(Op.PUSH, 7), Op.op(Op.STORE, 9));
        x.start();
        x.scan(3);
        check.same("get(9)", x.get(9), 7);
        check.same("begin(20)", x.begin(20), 20);
        check.same("get() behind it", x.get(9), -1);
        check.same("scan() behind it", x.scan(0), -1);
        check.same("add() behind it", x.add(0, 0, 0, 0), -1);
        check.same("start() behind it", x.start(), 13);
        for (int which = 0; which <= 5; which++) {
            check.same("count(" + which + ")", x.count(which), 0);
        }
        check.same("unit() behind it", x.unit(20, 0), 0);
        check.same("add() to that", x.add(Op.LEAVE, 0, 0, 0), 0);
        check.same("start()", x.start(), 0);
        for (int cell = 0; cell < 20; cell++) {
            check.same("get(" + cell + ")", x.get(cell), 0);
        }
    }

    private static void badChangesNothing() {
        ScanMachine x = Op.program(10, Op.op(Op.PUSH, 7), Op.op(Op.STORE, 9));
        x.start();
        x.scan(3);
        check.same("begin(0)", x.begin(0), -1);
        check.same("get(9)", x.get(9), 7);
        check.same("count(4)", x.count(4), 3);
        check.same("count(3)", x.count(3), 2);
        check.same("scan()", x.scan(1), 2);
        check.same("get(10)", x.get(10), -1);
        check.same("begin(4097)", x.begin(4097), -1);
        check.same("start()", x.start(), 0);
    }
}
