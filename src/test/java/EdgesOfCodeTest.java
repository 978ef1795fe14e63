/** The boundary sentences of promises 3 and 4, and what Terms say of units and instructions. */
public final class EdgesOfCodeTest extends Edges {
    public static void main(String[] args) {
        check = new Check("EdgesOfCodeTest");
        upTo16();
        frames();
        places();
        newUnit();
        allUnits256();
        whichOne();
        noUnit();
        anyOperands();
        lastIsProgram();
        behindTheLast();
        goesOnBehind();
        check.end();
    }

    private static void upTo16() {
        check.about("BAD: there are 16");
        ScanMachine x = new ScanMachine();
        for (int k = 0; k < 16; k++) {
            check.same("unit " + k, x.unit(0, 0), k);
        }
        check.same("the 17th", x.unit(0, 0), BAD);
        check.same("the 17th again", x.unit(1, -1), BAD);
        check.same("an instruction of the 16th", x.add(Op.LEAVE, 0, 0, 0), 0);
        check.same("start() with 16", x.start(), 0);
        check.same("the steps of the 16th", x.scan(0), 1);
    }

    private static void frames() {
        check.about("frame is not 0 .. 4,096");
        ScanMachine x = cells(4096);
        check.same("unit(0, 0)", x.unit(0, 0), 0);
        check.same("unit(1, -1)", x.unit(1, -1), 1);
        check.same("unit(4095, -1)", x.unit(4095, -1), 2);
        for (int frame : new int[] {-1, LEAST, 4097, MOST}) {
            check.same("unit(" + frame + ", 0)", x.unit(frame, 0), BAD);
            check.same("unit(" + frame + ", -1)", x.unit(frame, -1), BAD);
        }
        check.same("unit(4096, 0)", x.unit(4096, 0), 3);
        Op.addAll(x, load(4095), store(0));
        check.same("start()", x.start(), 0);
        check.same("a unit of 4096 cells", x.scan(0), 2);
    }

    private static void places() {
        check.about("or place not -1 .. 4,095");
        ScanMachine x = cells(4096);
        check.same("unit(1, -1)", x.unit(1, -1), 0);
        check.same("unit(1, 4095)", x.unit(1, 4095), 1);
        check.same("unit(1, 4094)", x.unit(1, 4094), 2);
        for (int place : new int[] {-2, LEAST, 4096, MOST}) {
            check.same("unit(1, " + place + ")", x.unit(1, place), BAD);
            check.same("unit(0, " + place + ")", x.unit(0, place), BAD);
        }
        check.same("unit(1, 0)", x.unit(1, 0), 3);
        Op.addAll(x, push(5), write(1, 0), push(6), write(2, 0));
        check.same("start()", x.start(), 0);
        check.same("scan()", x.scan(0), 4);
        check.same("the cell of the unit at 4095", x.get(4095), 5);
        check.same("the cell of the unit at 4094", x.get(4094), 6);
    }

    private static void newUnit() {
        check.about("A new unit, to which instructions come from now on: its number.");
        ScanMachine x = new ScanMachine();
        check.same("the first", x.unit(4, -1), 0);
        check.same("its first", x.add(Op.LEAVE, 0, 0, 0), 0);
        check.same("its second", x.add(Op.LEAVE, 0, 0, 0), 1);
        check.same("the second", x.unit(4, 0), 1);
        check.same("its first", x.add(Op.PUSH, 1, 0, 0), 0);
        check.same("a BAD unit", x.unit(-1, 0), BAD);
        check.same("instructions come to the second still", x.add(Op.STORE, 3, 0, 0), 1);
        check.same("start()", x.start(), 0);
        check.same("scan() of the second", x.scan(0), 2);
    }

    private static void allUnits256() {
        check.about("all units have 256 instructions at most");
        ScanMachine one = new ScanMachine();
        one.unit(0, 0);
        for (int k = 0; k < 256; k++) {
            check.same("instruction " + k + " of one unit", one.add(Op.LEAVE, 0, 0, 0), k);
        }
        check.same("the 257th of one unit", one.add(Op.LEAVE, 0, 0, 0), BAD);
        check.same("start()", one.start(), 0);

        ScanMachine many = new ScanMachine();
        for (int u = 0; u < 16; u++) {
            many.unit(0, u == 15 ? 0 : -1);
            for (int k = 0; k < 16; k++) {
                check.same("instruction " + k + " of unit " + u, many.add(Op.LEAVE, 0, 0, 0), k);
            }
        }
        check.same("the 257th of 16 units", many.add(Op.LEAVE, 0, 0, 0), BAD);
        check.same("start() of 16 units", many.start(), 0);
        check.same("begin()", many.begin(1), 1);
        many.unit(0, 0);
        check.same("the first one anew", many.add(Op.LEAVE, 0, 0, 0), 0);
    }

    private static void whichOne() {
        check.about("An instruction comes behind those of the last unit: which one of the unit it is.");
        ScanMachine x = new ScanMachine();
        x.unit(2, -1);
        for (int k = 0; k < 255; k++) {
            check.same("one of unit 0", x.add(Op.LEAVE, 0, 0, 0), k);
        }
        x.unit(2, 0);
        check.same("the 256th is the first one of unit 1", x.add(Op.ENTER, 0, 0, 0), 0);
        check.same("the 257th", x.add(Op.LEAVE, 0, 0, 0), BAD);
        check.same("start()", x.start(), 0);
        check.same("scan()", x.scan(0), 2);
    }

    private static void noUnit() {
        check.about("BAD: no unit, or there are 256.");
        ScanMachine x = new ScanMachine();
        check.same("add() to a new one", x.add(Op.LEAVE, 0, 0, 0), BAD);
        check.same("a BAD unit", x.unit(0, -2), BAD);
        check.same("add() behind a BAD unit", x.add(Op.LEAVE, 0, 0, 0), BAD);
        x.unit(0, 0);
        check.same("add()", x.add(Op.LEAVE, 0, 0, 0), 0);
        check.same("start() with the one that was not refused", x.start(), 0);
        check.same("its steps", x.count(3), 1);
        x.begin(8);
        check.same("add() behind begin()", x.add(Op.LEAVE, 0, 0, 0), BAD);
    }

    private static void anyOperands() {
        check.about("An instruction has a number and up to three OPERANDS a, b, c");
        ScanMachine x = new ScanMachine();
        x.unit(1, 0);
        int[] edges = {0, -1, 1, 18, 19, LEAST, MOST};
        for (int k = 0; k < edges.length; k++) {
            check.same("any number", x.add(edges[k], edges[k], edges[k], edges[k]), k);
        }
        check.same("start() tells of it", x.start(), 2);
        ScanMachine y = new ScanMachine();
        y.unit(1, 0);
        y.add(Op.PUSH, LEAST, MOST, LEAST);
        y.add(Op.STORE, 0, LEAST, MOST);
        y.add(Op.LEAVE, LEAST, MOST, LEAST);
        check.same("start() with operands that are not used", y.start(), 0);
        check.same("scan()", y.scan(0), 3);
        check.same("what was pushed", y.get(0), LEAST);
    }

    private static void lastIsProgram() {
        check.about("The last unit is the PROGRAM.");
        ScanMachine x = cells(8);
        unit(x, 2, 0, push(1), store(0));
        check.same("start() of one", x.start(), 0);
        check.same("scan() of one", x.scan(0), 2);
        unit(x, 2, 4, push(1), store(0));
        check.same("start() with one behind at 4", x.start(), 1);
        unit(x, 0, 0, leave());
        check.same("start() with one behind at 0", x.start(), 0);
        check.same("scan() of the last", x.scan(0), 1);
        check.same("the first one was not run", x.get(0), 0);
    }

    private static void behindTheLast() {
        check.about("Behind its last instruction a unit ends, too.");
        ScanMachine none = started();
        check.same("a unit without instructions", none.scan(0), 0);
        check.same("one instruction", started(count(0, 0), next(0, 3), back(1)).scan(0), 2);
        check.same("a GO behind the last", started(go(3), push(1), store(0)).scan(0), 1);
        check.same("an UNLESS behind the last", started(push(0), unless(4), push(1), store(0)).scan(0), 2);
    }

    private static void goesOnBehind() {
        check.about("A unit that ends goes on behind the instruction that began it.");
        ScanMachine x = cells(16);
        unit(x, 1, -1);
        unit(x, 1, 8, push(1), store(0), leave(), push(9), store(0));
        unit(x, 4, 0, enter(0, 0), call(1), push(2), store(0), enter(0, 3), call(1));
        check.same("start()", x.start(), 0);
        check.same("scan()", x.scan(0), 1 + 4 + 2 + 1 + 4);
        check.same("what was done between", x.get(0), 2);
        check.same("what LEAVE left", x.get(8), 1);
    }
}
