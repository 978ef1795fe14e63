/** Promises 7 and 8. */
public final class SetAndGetTest {
    public static void main(String[] args) {
        Check check = new Check("SetAndGetTest");
        ScanMachine x = Op.program(10, Op.op(Op.LOAD, 9), Op.op(Op.STORE, 8));
        check.same("set() before start()", x.set(0, 1), -1);
        check.same("get() before start()", x.get(0), -1);
        x.start();
        check.same("set(0, 5)", x.set(0, 5), 0);
        check.same("get(0)", x.get(0), 5);
        check.same("set(0, -1)", x.set(0, -1), 5);
        check.same("get(0) of -1", x.get(0), -1);
        check.same("set(0, 7)", x.set(0, 7), -1);
        check.same("get(0) of 7", x.get(0), 7);
        check.same("set(9, least)", x.set(9, Integer.MIN_VALUE), 0);
        check.same("set(9, greatest)", x.set(9, Integer.MAX_VALUE), Integer.MIN_VALUE);
        for (int wrong : new int[] {-1, 10, 4095, 4096, Integer.MIN_VALUE, Integer.MAX_VALUE}) {
            check.same("set(" + wrong + ", 3)", x.set(wrong, 3), -1);
            check.same("get(" + wrong + ")", x.get(wrong), -1);
        }
        check.same("scan()", x.scan(0), 2);
        check.same("get(8)", x.get(8), Integer.MAX_VALUE);
        check.same("set(8, 0)", x.set(8, 0), Integer.MAX_VALUE);
        check.same("get(9)", x.get(9), Integer.MAX_VALUE);
        x.start();
        for (int cell = 0; cell < 10; cell++) {
            check.same("get(" + cell + ") behind start()", x.get(cell), 0);
        }
        x.set(4, 4);
        x.add(Op.PUSH, 0, 0, 0);
        check.same("a start() with a fault", x.start(), 10);
        check.same("set() behind it", x.set(4, 1), -1);
        check.same("get() behind it", x.get(4), -1);

        ScanMachine wide = new ScanMachine();
        wide.begin(4096);
        wide.unit(1, 0);
        wide.start();
        check.same("a cell of no unit", wide.set(4095, 8), 0);
        check.same("that cell", wide.get(4095), 8);
        check.end();
    }
}
