/** Promise 3. */
public final class UnitTest {
    private static final Check check = new Check("UnitTest");

    public static void main(String[] args) {
        limits();
        sixteen();
        instructionsComeToTheLast();
        scansEnd();
        check.end();
    }

    private static void limits() {
        ScanMachine x = new ScanMachine();
        int least = Integer.MIN_VALUE;
        int most = Integer.MAX_VALUE;
        int[][] wrong = {{-1, 0}, {4097, 0}, {least, 0}, {most, 0}, {0, -2}, {0, 4096}, {0, least}, {0, most}};
        for (int[] pair : wrong) {
            check.same("unit(" + pair[0] + ", " + pair[1] + ")", x.unit(pair[0], pair[1]), -1);
        }
        check.same("start()", x.start(), 13);
        check.same("unit(0, -1)", x.unit(0, -1), 0);
        check.same("unit(4096, -1)", x.unit(4096, -1), 1);
        check.same("unit(0, 4095)", x.unit(0, 4095), 2);
        check.same("unit(4096, 4095)", x.unit(4096, 4095), 3);
    }

    private static void sixteen() {
        ScanMachine x = new ScanMachine();
        for (int k = 0; k < 16; k++) {
            check.same("unit " + k, x.unit(0, 0), k);
        }
        check.same("start() with 16", x.start(), 0);
        check.same("unit 16", x.unit(0, 0), -1);
        check.same("scan() behind a BAD one", x.scan(0), 0);
        check.same("begin()", x.begin(1), 1);
        check.same("unit 0 again", x.unit(0, 0), 0);
    }

    private static void instructionsComeToTheLast() {
        ScanMachine x = new ScanMachine();
        x.unit(4, -1);
        check.same("add to 0", x.add(Op.LEAVE, 0, 0, 0), 0);
        check.same("add to 0", x.add(Op.LEAVE, 0, 0, 0), 1);
        x.unit(4, 0);
        check.same("add to 1", x.add(Op.ENTER, 0, 0, 0), 0);
        check.same("start()", x.start(), 0);
        check.same("count(3)", x.count(3), 2);
        check.same("unit(-1, 0)", x.unit(-1, 0), -1);
        check.same("add to 1 behind a BAD unit", x.add(Op.LEAVE, 0, 0, 0), 1);
        x.unit(0, 0);
        check.same("a unit without instructions is the program", x.start(), 0);
        check.same("scan()", x.scan(0), 0);
    }

    private static void scansEnd() {
        ScanMachine x = Op.program(8, Op.op(Op.PUSH, 7), Op.op(Op.STORE, 2));
        x.start();
        x.scan(5);
        x.unit(3, 4096);
        check.same("get(2) behind a BAD one", x.get(2), 7);
        check.same("count(1) behind a BAD one", x.count(1), 1);
        x.unit(3, -1);
        check.same("get(2)", x.get(2), -1);
        check.same("scan()", x.scan(0), -1);
        for (int which = 0; which <= 5; which++) {
            check.same("count(" + which + ")", x.count(which), 0);
        }
    }
}
