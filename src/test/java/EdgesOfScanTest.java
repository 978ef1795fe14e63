/** The boundary sentences of promise 6, and of all that runs but TWO, ONE, CHOOSE and BLOCK. */
public final class EdgesOfScanTest extends Edges {
    public static void main(String[] args) {
        check = new Check("EdgesOfScanTest");
        ticks();
        nowTooHigh();
        mayNotBe();
        emptyStack();
        whereCellsLie();
        cellsOfInstructions();
        takes();
        puts();
        withoutABound();
        otherUnitsCells();
        unlessOf0();
        counters();
        faultsEndAtOnce();
        stepsOfAFault();
        withinTheSteps();
        check.end();
    }

    private static void ticks() {
        check.about("So many ticks (0 .. 100,000,000) go by, then a scan is run");
        ScanMachine x = started(block(0, 0));
        check.same("scan(0)", x.scan(0), 1);
        check.same("scan(1)", x.scan(1), 1);
        check.same("scan(100000000)", x.scan(100_000_000), 1);
        check.same("NOW in the scan", x.get(5), 100_000_001);
        for (int wrong : new int[] {-1, LEAST, 100_000_001, MOST}) {
            check.same("scan(" + wrong + ")", x.scan(wrong), BAD);
        }
        counts(x, "behind them", 1, 3, 0, 1, 100_000_001, 0);
        check.same("NOW in the last scan", x.get(5), 100_000_001);
    }

    private static void nowTooHigh() {
        check.about("or NOW would be above 2,000,000,000");
        ScanMachine x = started(block(0, 0));
        for (int k = 1; k <= 19; k++) {
            check.same("scan(100000000)", x.scan(100_000_000), 1);
        }
        check.same("scan(99999999)", x.scan(99_999_999), 1);
        check.same("scan(2) from 1999999999", x.scan(2), BAD);
        check.same("scan(100000000) from 1999999999", x.scan(100_000_000), BAD);
        check.same("count(4)", x.count(4), 1_999_999_999);
        check.same("scan(1) to 2000000000", x.scan(1), 1);
        check.same("count(4)", x.count(4), 2_000_000_000);
        check.same("L", x.get(5), 2_000_000_000);
        check.same("scan(1) from 2000000000", x.scan(1), BAD);
        check.same("scan(100000000) from 2000000000", x.scan(100_000_000), BAD);
        check.same("scan(0) from 2000000000", x.scan(0), 1);
        counts(x, "at the end", 1, 22, 0, 1, 2_000_000_000, 0);
        check.same("start()", x.start(), 0);
        check.same("scan(100000000) behind start()", x.scan(100_000_000), 1);
    }

    private static void mayNotBe() {
        check.about("BAD: it may not be");
        ScanMachine x = new ScanMachine();
        check.same("scan() of a new one", x.scan(0), BAD);
        x.unit(4, 0);
        check.same("scan() before start()", x.scan(0), BAD);
        x.add(Op.PUSH, 0, 0, 0);
        x.start();
        check.same("scan() behind a fault", x.scan(0), BAD);
        x.add(Op.STORE, 0, 0, 0);
        x.start();
        check.same("scan() behind 0", x.scan(0), 2);
        counts(x, "behind all", 2, 1, 0, 2, 0, 1);
    }

    private static void emptyStack() {
        check.about("A SCAN begins the program with an empty stack");
        ScanMachine x = started(push(1), push(2), push(3), load(0), two(8), two(5), two(5), store(1));
        for (int k = 0; k < 40; k++) {
            check.same("a scan that ends with three on it", x.scan(0), ZERO);
            check.same("count(5)", x.count(5), 4);
        }
        x.set(0, 3);
        check.same("scan()", x.scan(0), 8);
        check.same("count(5) from 0", x.count(5), 4);
        check.same("1 + 2 + 3 / 3", x.get(1), 4);
    }

    private static void whereCellsLie() {
        check.about("its cells begin at cell 0, those of a unit with a place there, those of one that is entered where 15 says in the cells of the unit that enters it");
        ScanMachine x = cells(40);
        unit(x, 3, -1, push(7), store(0), push(8), store(2));
        unit(x, 6, -1, enter(0, 0), enter(0, 3));
        unit(x, 8, 32, enter(1, 2));
        unit(x, 16, 0, enter(1, 10), call(2), push(9), store(0));
        check.same("start()", x.start(), 0);
        check.same("scan()", x.scan(0), 11 + 12 + 2);
        int[] due = new int[40];
        for (int from : new int[] {10, 13, 34, 37}) {
            due[from] = 7;
            due[from + 2] = 8;
        }
        due[0] = 9;
        for (int cell = 0; cell < 40; cell++) {
            check.same("get(" + cell + ")", x.get(cell), due[cell]);
        }
        // the last cells of all
        ScanMachine y = cells(4096);
        unit(y, 1, 4095, push(5), store(0));
        unit(y, 1, -1, push(6), store(0));
        unit(y, 4095, 0, call(0), enter(1, 4094));
        check.same("start() with 4096", y.start(), 0);
        check.same("scan() with 4096", y.scan(0), 6);
        check.same("get(4095)", y.get(4095), 5);
        check.same("get(4094)", y.get(4094), 6);
    }

    private static void cellsOfInstructions() {
        check.about("0 leaves a; 1 its cell; 2 takes what the cell becomes.");
        for (int a : new int[] {0, 1, -1, 32768, MOST, LEAST}) {
            ScanMachine x = started(push(a), store(0), load(0), store(15));
            check.same("scan()", x.scan(0), 4);
            check.same("PUSH " + a, x.get(0), a);
            check.same("LOAD of " + a, x.get(15), a);
        }
    }

    /** Cells 4 .. 7 are an array from b on; cell 0 is the index. */
    private static ScanMachine taking(int b) {
        ScanMachine x = started(load(0), take(4, b, 4), store(1));
        for (int cell = 1; cell < 16; cell++) {
            x.set(cell, 100 + cell);
        }
        return x;
    }

    private static void takes() {
        check.about("3 takes i: the fault INDEX, if i - b is not 0 .. c - 1");
        for (int b : new int[] {0, 1, -2, 10, LEAST, MOST - 3}) {
            ScanMachine x = taking(b);
            for (int k = 0; k < 4; k++) {
                x.set(0, b + k);
                check.same("scan() of i - b " + k, x.scan(0), 3);
                check.same("cell a + i - b", x.get(1), 104 + k);
            }
            for (int k : new int[] {-1, 4}) {
                x.set(0, b + k);
                x.set(1, 55);
                check.same("scan() of i - b " + k + " from " + b, x.scan(0), INDEX);
                check.same("its steps", x.count(0), 2);
                check.same("what stays", x.get(1), 55);
            }
        }
        ScanMachine one = started(load(0), take(15, 3, 1), store(1));
        one.set(15, 8);
        for (int i = 2; i <= 4; i++) {
            one.set(0, i);
            check.same("scan() of one cell at " + i, one.scan(0), i == 3 ? 3 : INDEX);
        }
        check.same("the one cell", one.get(1), 8);
    }

    private static void puts() {
        check.about("4 takes v, then i, INDEX likewise: that cell becomes v.");
        for (int b : new int[] {0, 1, -2, 10, LEAST, MOST - 3}) {
            ScanMachine x = started(load(0), load(1), put(4, b, 4));
            for (int k = 0; k < 4; k++) {
                x.set(0, b + k);
                x.set(1, 70 + k);
                check.same("scan() of i - b " + k, x.scan(0), 3);
                check.same("what the cell became", x.get(4 + k), 70 + k);
            }
            x.set(1, 99);
            for (int k : new int[] {-1, 4}) {
                x.set(0, b + k);
                check.same("scan() of i - b " + k + " from " + b, x.scan(0), INDEX);
                check.same("its steps", x.count(0), 3);
            }
            for (int cell = 2; cell < 16; cell++) {
                check.same("cell " + cell, x.get(cell), cell >= 4 && cell < 8 ? 66 + cell : 0);
            }
        }
    }

    private static void withoutABound() {
        check.about("(reckoned without a bound)");
        int[][] rows = {{MOST, LEAST}, {MOST, LEAST + 1}, {LEAST, MOST}, {1, LEAST}, {-1, MOST}, {LEAST, 0}, {MOST, -1}};
        for (int[] row : rows) {
            ScanMachine x = taking(row[0]);
            x.set(0, row[1]);
            check.same("TAKE at " + row[1] + " from " + row[0], x.scan(0), INDEX);
            ScanMachine y = started(load(0), push(1), put(4, row[0], 4));
            y.set(0, row[1]);
            check.same("PUT at " + row[1] + " from " + row[0], y.scan(0), INDEX);
        }
        ScanMachine z = taking(MOST);
        z.set(0, MOST);
        check.same("TAKE at the greatest from it", z.scan(0), 3);
        check.same("what was taken", z.get(1), 104);
    }

    private static void otherUnitsCells() {
        check.about("5 leaves cell b of unit a, 6 takes what that becomes.");
        ScanMachine x = cells(20);
        unit(x, 2, 18);
        unit(x, 2, 16);
        unit(x, 16, 0, load(0), write(0, 0), load(1), write(0, 1), load(2), write(1, 1), read(0, 1), store(3), read(1, 1),
                store(4), read(1, 0), store(5));
        check.same("start()", x.start(), 0);
        x.set(0, 40);
        x.set(1, 41);
        x.set(2, 42);
        x.set(16, 43);
        check.same("scan()", x.scan(0), 12);
        int[] due = {43, 42, 40, 41};
        for (int k = 0; k < 4; k++) {
            check.same("get(" + (16 + k) + ")", x.get(16 + k), due[k]);
        }
        check.same("cell 1 of unit 0", x.get(3), 41);
        check.same("cell 1 of unit 1", x.get(4), 42);
        check.same("cell 0 of unit 1", x.get(5), 43);
    }

    private static void unlessOf0() {
        check.about("11 takes x: it goes to a, if x is 0.");
        ScanMachine x = started(load(0), unless(4), push(1), go(5), push(2), store(1));
        for (int v : new int[] {0, 1, -1, 65536, LEAST, MOST}) {
            x.set(0, v);
            check.same("scan() of " + v, x.scan(0), v == 0 ? 4 : 5);
            check.same("where it went", x.get(1), v == 0 ? 2 : 1);
        }
    }

    private static void counters() {
        check.about("if counter a is 0, on at instruction b; otherwise it becomes 1 less");
        for (int times : new int[] {0, 1, 2, 7}) {
            ScanMachine x = started(count(9, times), next(9, 7), load(1), push(1), two(5), store(1), back(1));
            check.same("scan() of " + times, x.scan(0), 2 + 6 * times);
            check.same("how often", x.get(1), times);
            check.same("the counter behind it", x.get(9), 0);
            for (int spoilt : new int[] {5, -5, LEAST, MOST}) {
                x.set(9, spoilt);
                x.set(1, 0);
                check.same("scan() with a counter of " + spoilt, x.scan(0), 2 + 6 * times);
                check.same("how often", x.get(1), times);
            }
        }
        ScanMachine left = started(count(9, 5), next(9, 4), leave(), back(1));
        check.same("scan() that leaves the loop", left.scan(0), 3);
        check.same("the counter stays 1 less", left.get(9), 4);
    }

    private static void faultsEndAtOnce() {
        check.about("A fault ends the scan at once, with that instruction as its last step; cells stay as they are then.");
        ScanMachine y = cells(32);
        unit(y, 4, -1, push(5), store(1), push(7), load(0), two(9), store(2), push(3), store(3));
        unit(y, 4, 20, push(6), store(3), enter(0, 0), push(6), store(2));
        unit(y, 16, 0, push(1), store(0), push(2), call(1), store(1), push(3), store(2));
        check.same("start() of a fault two units deep", y.start(), 0);
        y.set(22, 77);
        check.same("scan() of it", y.scan(12), ZERO);
        counts(y, "behind it", 3 + 1 + 2 + 1 + 5, 1, 1, y.count(3), 12, 3);
        int[] due = new int[32];
        due[0] = 1;
        due[21] = 5;
        due[22] = 77;
        due[23] = 6;
        for (int cell = 0; cell < 32; cell++) {
            check.same("get(" + cell + ")", y.get(cell), due[cell]);
        }
        y.set(20, 4);
        check.same("the next scan", y.scan(0), y.count(3));
        check.same("7 mod 4, and then 6", y.get(22), 6);
        check.same("what is behind the unit", y.get(1), 2);
    }

    private static void stepsOfAFault() {
        check.about("its steps; ZERO or INDEX");
        ScanMachine x = started(load(0), unless(6), push(1), load(1), two(3), store(2), load(3), take(8, 0, 2), store(2));
        check.same("INDEX or not", x.scan(0), 5);
        x.set(3, 2);
        check.same("INDEX", x.scan(0), INDEX);
        check.same("steps to INDEX", x.count(0), 4);
        x.set(0, 1);
        check.same("ZERO before INDEX", x.scan(0), ZERO);
        check.same("steps to ZERO", x.count(0), 5);
        x.set(1, 1);
        check.same("INDEX again", x.scan(0), INDEX);
        check.same("steps to INDEX again", x.count(0), 8);
        x.set(3, 1);
        check.same("none", x.scan(0), 9);
        counts(x, "behind all", 9, 5, 3, 9, 0, 2);
    }

    private static void withinTheSteps() {
        check.about("each scan ends within the steps that were told before, or with one of two faults");
        ScanMachine x = started(count(9, 5), next(9, 8), load(0), unless(5), leave(), push(2), store(1), back(1));
        check.same("count(3)", x.count(3), 1 + 5 * 6 + 1);
        check.same("the longest way", x.scan(0), 32);
        x.set(0, 1);
        check.same("a shorter one", x.scan(0), 5);
        check.same("count(3) stays", x.count(3), 32);
        // 20,000 steps that all begin a unit: 20 * (1 + 27 * (1 + 36))
        ScanMachine y = cells(16);
        unit(y, 0, -1);
        int[] many = {36, 27, 20};
        for (int u = 1; u <= 3; u++) {
            y.unit(0, u == 3 ? 0 : -1);
            for (int k = 0; k < many[u - 1]; k++) {
                Op.addAll(y, enter(u - 1, 0));
            }
        }
        check.same("start() of units alone", y.start(), 0);
        check.same("count(3) of units alone", y.count(3), 20_000);
        check.same("scan() of units alone", y.scan(0), 20_000);
    }
}
