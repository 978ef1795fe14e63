/** Promise 1. */
public final class NewObjectTest {
    public static void main(String[] args) {
        Check check = new Check("NewObjectTest");
        check.same("BAD", ScanMachine.BAD, -1);
        check.same("ZERO", ScanMachine.ZERO, -2);
        check.same("INDEX", ScanMachine.INDEX, -3);

        ScanMachine fresh = new ScanMachine();
        check.same("add() without a unit", fresh.add(0, 0, 0, 0), -1);
        check.same("scan()", fresh.scan(0), -1);
        check.same("set()", fresh.set(0, 1), -1);
        check.same("get()", fresh.get(0), -1);
        for (int which = 0; which <= 5; which++) {
            check.same("count(" + which + ")", fresh.count(which), 0);
        }
        check.same("start()", fresh.start(), 13);

        check.same("unit()", fresh.unit(64, 0), 0);
        check.same("start() with 64 cells", fresh.start(), 0);
        check.same("get(63)", fresh.get(63), 0);
        check.same("get(64)", fresh.get(64), -1);

        ScanMachine other = new ScanMachine();
        other.unit(65, 0);
        check.same("start() with 65 cells", other.start(), 1);
        check.same("set() in one object", fresh.set(3, 9), 0);
        ScanMachine third = new ScanMachine();
        third.unit(64, 0);
        third.start();
        check.same("get() in another one", third.get(3), 0);
        check.end();
    }
}
