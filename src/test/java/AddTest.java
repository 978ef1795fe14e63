/** Promise 4. */
public final class AddTest {
    private static final Check check = new Check("AddTest");

    public static void main(String[] args) {
        anyNumbers();
        inAll256();
        scansEnd();
        check.end();
    }

    private static void anyNumbers() {
        ScanMachine x = new ScanMachine();
        check.same("add() without a unit", x.add(0, 0, 0, 0), -1);
        x.unit(1, 0);
        check.same("add(0)", x.add(0, 0, 0, 0), 0);
        check.same("add(99)", x.add(99, -1, -1, -1), 1);
        check.same("add(least)", x.add(Integer.MIN_VALUE, Integer.MIN_VALUE, 0, 0), 2);
        check.same("add(greatest)", x.add(Integer.MAX_VALUE, 0, Integer.MAX_VALUE, 5), 3);
        check.same("start()", x.start(), 2);
    }

    private static void inAll256() {
        ScanMachine x = new ScanMachine();
        x.unit(0, -1);
        for (int k = 0; k < 100; k++) {
            check.same("add to unit 0", x.add(Op.LEAVE, 0, 0, 0), k);
        }
        x.unit(1, 0);
        for (int k = 0; k < 78; k++) {
            check.same("add to unit 1", x.add(Op.PUSH, k, 0, 0), 2 * k);
            check.same("add to unit 1", x.add(Op.STORE, 0, 0, 0), 2 * k + 1);
        }
        check.same("start()", x.start(), 0);
        check.same("the 257th", x.add(Op.LEAVE, 0, 0, 0), -1);
        check.same("scan() behind a BAD one", x.scan(0), 156);
        check.same("get(0)", x.get(0), 77);
        check.same("unit()", x.unit(1, 0), 2);
        check.same("the 257th in another unit", x.add(Op.LEAVE, 0, 0, 0), -1);
        x.begin(1);
        check.same("add() behind begin()", x.add(Op.LEAVE, 0, 0, 0), -1);
        x.unit(1, 0);
        for (int k = 0; k < 128; k++) {
            check.same("add again", x.add(Op.LEAVE, 0, 0, 0), k);
        }
        check.same("start() again", x.start(), 0);
    }

    private static void scansEnd() {
        ScanMachine x = Op.program(8, Op.op(Op.PUSH, 7), Op.op(Op.STORE, 2));
        x.start();
        x.scan(5);
        check.same("add()", x.add(Op.LEAVE, 0, 0, 0), 2);
        check.same("get(2)", x.get(2), -1);
        check.same("set(2, 0)", x.set(2, 0), -1);
        check.same("scan()", x.scan(0), -1);
        for (int which = 0; which <= 5; which++) {
            check.same("count(" + which + ")", x.count(which), 0);
        }
        check.same("start()", x.start(), 0);
        check.same("get(2) behind start()", x.get(2), 0);
        check.same("count(3)", x.count(3), 3);
    }
}
