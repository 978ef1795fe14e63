/** Promise 5, with faults 1 to 6: places, and instructions by themselves; and the order of faults. */
public final class StartTest {
    private static final int LEAST = Integer.MIN_VALUE, MOST = Integer.MAX_VALUE;
    private static final Check check = new Check("StartTest");

    public static void main(String[] args) {
        places();
        numbers();
        unitsThatAreNamed();
        cells();
        enteredCells();
        counters();
        ways();
        order();
        scansMayBeRun();
        check.end();
    }

    /** start() of units without instructions, each {frame, place}, over t cells. */
    private static int placed(int t, int[]... units) {
        ScanMachine x = new ScanMachine();
        x.begin(t);
        for (int[] unit : units) {
            x.unit(unit[0], unit[1]);
        }
        return x.start();
    }

    private static int[] at(int frame, int place) {
        return new int[] {frame, place};
    }

    private static void places() {
        check.same("the program at 0", placed(8, at(8, 0)), 0);
        check.same("the program too long", placed(8, at(9, 0)), 1);
        check.same("the program at 1", placed(8, at(2, 1)), 1);
        check.same("the program without a place", placed(8, at(2, -1)), 1);
        check.same("an empty program at 1", placed(8, at(0, 1)), 1);
        check.same("a unit behind the program's cells", placed(8, at(4, 4), at(4, 0)), 0);
        check.same("a unit above the cells", placed(8, at(5, 4), at(4, 0)), 1);
        check.same("a unit far above the cells", placed(8, at(1, 4095), at(4, 0)), 1);
        check.same("a unit without cells there", placed(8, at(0, 4095), at(4, 0)), 0);
        check.same("a unit on the program", placed(8, at(4, 3), at(4, 0)), 1);
        check.same("two units on one another", placed(9, at(3, 4), at(3, 6), at(4, 0)), 1);
        check.same("two units in the other order", placed(9, at(3, 6), at(3, 4), at(4, 0)), 1);
        check.same("two units side by side", placed(10, at(3, 7), at(3, 4), at(4, 0)), 0);
        check.same("one in another", placed(12, at(6, 5), at(1, 7), at(4, 0)), 1);
        check.same("one without cells in another", placed(12, at(6, 5), at(0, 7), at(4, 0)), 0);
        check.same("one round one without cells", placed(12, at(0, 7), at(6, 5), at(4, 0)), 0);
        check.same("one without a place is as large as it likes", placed(2, at(4096, -1), at(2, 0)), 0);
        check.same("the last one is the program", placed(8, at(4, 0), at(4, 4)), 1);
        check.same("the same place twice", placed(8, at(4, 0), at(4, 0)), 1);
    }

    private static void one(String what, int due, int... row) {
        check.same(what, Op.faultOf(16, row), due);
    }

    private static void numbers() {
        one("number -1", 2, -1);
        one("number 19", 2, 19);
        one("number least", 2, LEAST);
        one("number greatest", 2, MOST);
        one("TWO -1", 2, Op.TWO, -1);
        one("TWO 25", 2, Op.TWO, 25);
        one("TWO 0", 8, Op.TWO, 0);
        one("TWO 24", 8, Op.TWO, 24);
        one("ONE -1", 2, Op.ONE, -1);
        one("ONE 8", 2, Op.ONE, 8);
        one("ONE 0", 8, Op.ONE, 0);
        one("ONE 7", 8, Op.ONE, 7);
        one("COUNT -1 times", 2, Op.COUNT, 0, -1);
        one("COUNT 1000001 times", 2, Op.COUNT, 0, 1_000_001);
        one("COUNT 0 times", 7, Op.COUNT, 0, 0);
        one("COUNT 1000000 times", 7, Op.COUNT, 0, 1_000_000);
        one("BLOCK -1", 2, Op.BLOCK, -1, 0);
        one("BLOCK 9", 2, Op.BLOCK, 9, 0);
        for (int kind = 0; kind <= 8; kind++) {
            one("BLOCK " + kind, 0, Op.BLOCK, kind, 0);
        }
        one("TAKE of 0", 2, Op.TAKE, 0, 0, 0);
        one("TAKE of least", 2, Op.TAKE, 0, 0, LEAST);
        one("TAKE of 1", 8, Op.TAKE, 0, 0, 1);
        one("PUT of 0", 2, Op.PUT, 0, 0, 0);
        one("PUT of 1", 8, Op.PUT, 0, 0, 1);
        one("LEAVE with any operands", 0, Op.LEAVE, -9, MOST, LEAST);
        one("CHOOSE", 8, Op.CHOOSE);
        one("PUSH", 10, Op.PUSH);
    }

    /** start(): unit 0 has cells 16 .. 19, unit 1 has 4 cells and no place, the program has this one row. */
    private static int among(int... row) {
        ScanMachine x = new ScanMachine();
        x.unit(4, 16);
        x.unit(4, -1);
        x.unit(16, 0);
        Op.addAll(x, row);
        return x.start();
    }

    private static void unitsThatAreNamed() {
        for (int number : new int[] {Op.READ, Op.WRITE, Op.CALL}) {
            for (int wrong : new int[] {1, 2, 3, 16, -1, LEAST, MOST}) {
                check.same(number + " of unit " + wrong, among(number, wrong, 0), 3);
            }
        }
        check.same("READ", among(Op.READ, 0, 0), 10);
        check.same("WRITE", among(Op.WRITE, 0, 0), 8);
        check.same("CALL", among(Op.CALL, 0, -1), 0);
        for (int wrong : new int[] {0, 2, 3, 16, -1, LEAST, MOST}) {
            check.same("ENTER of unit " + wrong, among(Op.ENTER, wrong, 0), 3);
        }
        check.same("ENTER", among(Op.ENTER, 1, 0), 0);
        ScanMachine x = new ScanMachine();
        x.unit(4, 16);
        x.add(Op.CALL, 1, 0, 0);
        x.unit(4, 20);
        x.unit(16, 0);
        check.same("CALL of a later unit", x.start(), 3);
        ScanMachine y = new ScanMachine();
        y.unit(4, -1);
        y.add(Op.ENTER, 0, 0, 0);
        y.unit(4, 0);
        check.same("ENTER of itself", y.start(), 3);
        ScanMachine z = new ScanMachine();
        z.unit(4, 4);
        z.add(Op.CALL, 0, 0, 0);
        z.unit(4, 0);
        check.same("CALL of itself", z.start(), 3);
    }

    private static void cells() {
        for (int number : new int[] {Op.LOAD, Op.STORE, Op.COUNT, Op.NEXT}) {
            for (int wrong : new int[] {-1, 16, LEAST, MOST}) {
                one(number + " of cell " + wrong, 4, number, wrong, 1);
            }
        }
        one("LOAD 15", 10, Op.LOAD, 15);
        one("STORE 15", 8, Op.STORE, 15);
        one("NEXT 15", 7, Op.NEXT, 15, 1);
        for (int number : new int[] {Op.TAKE, Op.PUT}) {
            one(number + " of 16 from 0", 8, number, 0, 0, 16);
            one(number + " of 17 from 0", 4, number, 0, 0, 17);
            one(number + " of 1 from 15", 8, number, 15, 0, 1);
            one(number + " of 2 from 15", 4, number, 15, 0, 2);
            one(number + " from -1", 4, number, -1, 0, 2);
            one(number + " of greatest", 4, number, 1, 0, MOST);
            one(number + " of greatest from greatest", 4, number, MOST, 0, MOST);
            one(number + " of any b", 8, number, 0, LEAST, 1);
        }
        for (int number : new int[] {Op.READ, Op.WRITE}) {
            int right = number == Op.READ ? 10 : 8;
            check.same(number + " cell 3", among(number, 0, 3), right);
            for (int wrong : new int[] {4, -1, LEAST, MOST}) {
                check.same(number + " cell " + wrong, among(number, 0, wrong), 4);
            }
        }
        for (int kind = 0; kind <= 8; kind++) {
            int last = kind <= 4 ? 10 : 13;
            one("BLOCK " + kind + " at the end", 0, Op.BLOCK, kind, last);
            one("BLOCK " + kind + " behind that", 4, Op.BLOCK, kind, last + 1);
            one("BLOCK " + kind + " at -1", 4, Op.BLOCK, kind, -1);
            one("BLOCK " + kind + " at the greatest", 4, Op.BLOCK, kind, MOST);
        }
    }

    /** start() of a program of 8 cells that enters a unit with so many cells. */
    private static int enters(int frame, int b) {
        ScanMachine x = new ScanMachine();
        x.unit(frame, -1);
        x.unit(8, 0);
        x.add(Op.ENTER, 0, b, 0);
        return x.start();
    }

    private static void enteredCells() {
        check.same("4 cells from 4", enters(4, 4), 0);
        check.same("4 cells from 5", enters(4, 5), 4);
        check.same("4 cells from -1", enters(4, -1), 4);
        check.same("4 cells from the greatest", enters(4, MOST), 4);
        check.same("8 cells", enters(8, 0), 0);
        check.same("9 cells", enters(9, 0), 4);
        check.same("no cells from 8", enters(0, 8), 0);
        check.same("no cells from the greatest", enters(0, MOST), 0);
        check.same("no cells from -1", enters(0, -1), 4);
    }

    /** start() of a program with one row, and then a loop whose counter is cell 8. */
    private static int beforeLoop(int... row) {
        ScanMachine x = new ScanMachine();
        x.unit(4, -1);
        x.unit(16, 0);
        Op.addAll(x, row, Op.op(Op.COUNT, 8, 2), Op.op(Op.NEXT, 8, 4), Op.op(Op.BACK, 2));
        return x.start();
    }

    private static void counters() {
        check.same("LOAD beside", beforeLoop(Op.LOAD, 7), 10);
        check.same("LOAD", beforeLoop(Op.LOAD, 8), 5);
        check.same("STORE", beforeLoop(Op.STORE, 8), 5);
        check.same("TAKE up to it", beforeLoop(Op.TAKE, 4, 0, 4), 8);
        check.same("TAKE over it", beforeLoop(Op.TAKE, 4, 0, 5), 5);
        check.same("TAKE behind it", beforeLoop(Op.TAKE, 9, 0, 7), 8);
        check.same("PUT over it", beforeLoop(Op.PUT, 8, 0, 3), 5);
        check.same("ENTER up to it", beforeLoop(Op.ENTER, 0, 4), 0);
        check.same("ENTER over it", beforeLoop(Op.ENTER, 0, 5), 5);
        check.same("ENTER behind it", beforeLoop(Op.ENTER, 0, 9), 0);
        check.same("BLOCK up to it", beforeLoop(Op.BLOCK, 0, 2), 0);
        check.same("BLOCK over it", beforeLoop(Op.BLOCK, 0, 3), 5);
        check.same("short BLOCK up to it", beforeLoop(Op.BLOCK, 5, 5), 0);
        check.same("short BLOCK over it", beforeLoop(Op.BLOCK, 5, 6), 5);
        check.same("short BLOCK behind it", beforeLoop(Op.BLOCK, 5, 9), 0);
        check.same("a counter of a NEXT alone", Op.faultOf(8, Op.op(Op.LOAD, 3), Op.op(Op.NEXT, 3, 2)), 5);
    }

    private static void ways() {
        int[] leave = Op.op(Op.LEAVE);
        for (int number : new int[] {Op.GO, Op.UNLESS}) {
            int right = number == Op.GO ? 0 : 8;
            for (int wrong : new int[] {1, 0, -1, LEAST, 4, MOST}) {
                check.same(number + " to " + wrong, Op.faultOf(1, leave, Op.op(number, wrong), leave), 6);
            }
            check.same(number + " to the next", Op.faultOf(1, Op.op(number, 1), leave), right);
            check.same(number + " to the end", Op.faultOf(1, Op.op(number, 2), leave), right);
        }
        for (int wrong : new int[] {1, 0, -1, LEAST, 4, MOST}) {
            check.same("NEXT to " + wrong, Op.faultOf(1, leave, Op.op(Op.NEXT, 0, wrong), leave), 6);
        }
        check.same("NEXT to the end", Op.faultOf(1, leave, Op.op(Op.NEXT, 0, 3), leave), 7);
        for (int wrong : new int[] {1, 2, 3, MOST, -1, LEAST}) {
            check.same("BACK to " + wrong, Op.faultOf(1, leave, Op.op(Op.BACK, wrong), leave), 6);
        }
        check.same("BACK to the one before", Op.faultOf(1, leave, Op.op(Op.BACK, 0), leave), 7);
    }

    private static void order() {
        int[] push = Op.op(Op.PUSH, 1);
        check.same("2 before 4 of one", Op.faultOf(1, Op.op(Op.TAKE, 5, 0, 0)), 2);
        check.same("4 of the first before 2 of the next", Op.faultOf(1, Op.op(Op.LOAD, 5), Op.op(99)), 4);
        check.same("6 behind before 7 at first", Op.faultOf(1, Op.op(Op.COUNT, 0, 1), Op.op(Op.GO, 0)), 6);
        check.same("7 behind before 8 at first", Op.faultOf(1, Op.op(Op.ONE, 0), Op.op(Op.COUNT, 0, 1)), 7);
        check.same("4 before 5 of one", Op.faultOf(4, Op.op(Op.TAKE, 0, 0, 9), Op.op(Op.COUNT, 0, 0)), 4);
        check.same("5 of the first before 2 of its counter",
                Op.faultOf(4, Op.op(Op.LOAD, 0), Op.op(Op.COUNT, 0, -1)), 5);
        check.same("5 of the first before 6 of its counter",
                Op.faultOf(4, Op.op(Op.LOAD, 0), Op.op(Op.NEXT, 0, -1)), 5);
        ScanMachine x = new ScanMachine();
        x.begin(8);
        x.unit(4, 4);
        Op.addAll(x, push);
        x.unit(4, 4);
        x.unit(4, 1);
        Op.addAll(x, Op.op(99));
        check.same("10 of unit 0 before 1 of unit 1", x.start(), 10);
        ScanMachine y = new ScanMachine();
        y.begin(8);
        y.unit(4, 1);
        Op.addAll(y, Op.op(99));
        check.same("1 before 2 of one unit", y.start(), 1);
        ScanMachine z = new ScanMachine();
        z.unit(4, 4);
        Op.addAll(z, Op.op(Op.LOAD, 1), Op.op(Op.STORE, 0), Op.op(Op.COUNT, 3, 0), Op.op(Op.NEXT, 3, 5), Op.op(Op.BACK, 3));
        z.unit(4, 0);
        Op.addAll(z, Op.op(Op.READ, 0, 3), Op.op(Op.STORE, 3));
        check.same("READ of another unit's counter", z.start(), 5);
        z.begin(8);
        z.unit(4, 4);
        z.unit(4, 0);
        Op.addAll(z, Op.op(Op.READ, 0, 3), Op.op(Op.WRITE, 0, 3), Op.op(Op.COUNT, 3, 0), Op.op(Op.NEXT, 3, 5),
                Op.op(Op.BACK, 3));
        check.same("READ of a cell with the number of an own counter", z.start(), 0);
    }

    private static void scansMayBeRun() {
        ScanMachine x = new ScanMachine();
        check.same("start() without a unit", x.start(), 13);
        x.unit(4, 0);
        Op.addAll(x, Op.op(Op.PUSH, 6), Op.op(Op.STORE, 1));
        check.same("scan() before start()", x.scan(0), -1);
        check.same("start()", x.start(), 0);
        check.same("scan()", x.scan(7), 2);
        check.same("get(1)", x.get(1), 6);
        check.same("start() again", x.start(), 0);
        check.same("get(1) again", x.get(1), 0);
        check.same("count(1) again", x.count(1), 0);
        check.same("count(4) again", x.count(4), 0);
        check.same("scan() again", x.scan(0), 2);
    }
}
