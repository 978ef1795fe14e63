/** The boundary sentences of faults 2 to 6: each instruction by itself. */
public final class EdgesOfInstructionsTest extends Edges {
    public static void main(String[] args) {
        check = new Check("EdgesOfInstructionsTest");
        inOrder();
        numbers();
        twos();
        ones();
        times();
        kinds();
        manyOfArrays();
        unitsBefore();
        placesOfUnits();
        singleCells();
        arrayCells();
        cellsOfOtherUnits();
        enteredCells();
        enteredNone();
        blockCells();
        counters();
        countersOfOtherUnits();
        countersAsTheyAre();
        countersLeftOut();
        waysOn();
        waysBack();
        check.end();
    }

    /** start() of unit 0 with 4 cells and a place, unit 1 with 4 and none, and a program of 16 with this row. */
    private static void among(int due, int... row) {
        check.same("start() with " + named(row), between(0, row, 0), due);
    }

    /** The same with no fault: what the row takes is pushed first, and what it leaves is stored. */
    private static void right(int takes, int leaves, int... row) {
        check.same("start() with " + named(row), between(takes, row, leaves), 0);
    }

    private static void inOrder() {
        check.about("Then its instructions in order, each for these in order");
        starts(2, "2 and 4 in one", take(16, 0, 0));
        starts(4, "4 and 5 in one", take(15, 0, 2), next(15, 2));
        starts(5, "5, and then 2", load(3), next(3, 2), Op.op(19));
        starts(2, "2, and then 5", Op.op(19), load(3), next(3, 3));
        starts(6, "6, and then 4", go(0), load(16));
        starts(4, "4, and then 6", load(16), go(0));
        among(2, Op.BLOCK, 9, -1);
        among(3, Op.READ, 2, -1);
        among(3, Op.ENTER, 0, -1);
        among(4, Op.NEXT, 16, 0);
    }

    private static void numbers() {
        check.about("FAULT 2: a number that is none above");
        for (int none : new int[] {-1, 19, 20, LEAST, MOST}) {
            among(2, none);
        }
        right(0, 1, Op.PUSH, 0);
        right(0, 0, Op.LEAVE);
        starts(2, "19 behind a LEAVE", leave(), Op.op(19));
    }

    private static void twos() {
        check.about("of 7, a is not 0 .. 24");
        for (int a = 0; a <= 24; a++) {
            right(2, 1, Op.TWO, a);
        }
        for (int a : new int[] {-1, 25, LEAST, MOST}) {
            among(2, Op.TWO, a);
        }
    }

    private static void ones() {
        check.about("of 8, a is not 0 .. 7");
        for (int a = 0; a <= 7; a++) {
            right(1, 1, Op.ONE, a);
        }
        for (int a : new int[] {-1, 8, LEAST, MOST}) {
            among(2, Op.ONE, a);
        }
    }

    private static void times() {
        check.about("of 12, b is not 0 .. 1,000,000");
        for (int b : new int[] {0, 1, 999_999, 1_000_000}) {
            starts(b <= 1 ? 0 : 12, b + " times", count(0, b), next(0, 3), back(1));
        }
        for (int b : new int[] {-1, 1_000_001, LEAST, MOST}) {
            starts(2, b + " times", count(0, b), next(0, 3), back(1));
        }
    }

    private static void kinds() {
        check.about("of 17, a is not 0 .. 8");
        for (int a = 0; a <= 8; a++) {
            right(0, 0, Op.BLOCK, a, 0);
        }
        for (int a : new int[] {-1, 9, LEAST, MOST}) {
            among(2, Op.BLOCK, a, 0);
        }
    }

    private static void manyOfArrays() {
        check.about("of 3 and 4, c is below 1");
        right(1, 1, Op.TAKE, 0, 0, 1);
        right(2, 0, Op.PUT, 0, 0, 1);
        for (int c : new int[] {0, -1, LEAST}) {
            among(2, Op.TAKE, 0, 0, c);
            among(2, Op.PUT, 0, 0, c);
        }
    }

    private static void unitsBefore() {
        check.about("FAULT 3: of 5, 6, 15, 16: unit a is not one before this one");
        for (int number : new int[] {Op.READ, Op.WRITE, Op.ENTER, Op.CALL}) {
            for (int a : new int[] {-1, 2, 3, 15, 16, LEAST, MOST}) {
                among(3, number, a, 0);
            }
        }
        right(0, 1, Op.READ, 0, 0);
        right(1, 0, Op.WRITE, 0, 0);
        right(0, 0, Op.ENTER, 1, 0);
        right(0, 0, Op.CALL, 0);
        ScanMachine first = cells(8);
        unit(first, 4, 4, call(0));
        unit(first, 4, 0);
        check.same("start() with a CALL in unit 0", first.start(), 3);
        ScanMachine itself = cells(8);
        unit(itself, 4, -1, enter(0, 0));
        unit(itself, 4, 0);
        check.same("start() with an ENTER of itself", itself.start(), 3);
        ScanMachine later = cells(8);
        unit(later, 2, 4);
        unit(later, 1, 6, call(2));
        unit(later, 1, 7);
        unit(later, 4, 0);
        check.same("start() with a CALL of the unit behind", later.start(), 3);
        ScanMachine last = cells(16);
        for (int u = 0; u < 15; u++) {
            unit(last, 0, 0);
        }
        unit(last, 4, 0, call(14), call(0));
        check.same("start() with a CALL of unit 14 in unit 15", last.start(), 0);
    }

    private static void placesOfUnits() {
        check.about("or has no place (15: has one)");
        for (int number : new int[] {Op.READ, Op.WRITE, Op.CALL}) {
            among(3, number, 1, 0);
        }
        among(3, Op.ENTER, 0, 0);
        ScanMachine x = cells(8);
        unit(x, 0, 0);
        unit(x, 4, 0, call(0));
        check.same("start() with a CALL of one at 0", x.start(), 0);
        ScanMachine y = cells(8);
        unit(y, 0, 0);
        unit(y, 4, 0, enter(0, 0));
        check.same("start() with an ENTER of one at 0", y.start(), 3);
    }

    private static void singleCells() {
        check.about("FAULT 4: a cell that is not in the frame: of 1, 2, 12, 13 a");
        for (int number : new int[] {Op.LOAD, Op.STORE, Op.COUNT, Op.NEXT}) {
            for (int a : new int[] {-1, 16, 17, LEAST, MOST}) {
                among(4, number, a, 1);
            }
        }
        for (int a : new int[] {0, 15}) {
            starts(0, "cell " + a, load(a), store(a));
            starts(0, "counter " + a, count(a, 0), next(a, 3), back(1));
        }
        starts(4, "the right COUNT and a wrong NEXT", count(15, 0), next(16, 3), back(1));
        ScanMachine none = cells(8);
        unit(none, 0, 0, load(0));
        check.same("start() with cell 0 of a frame of 0", none.start(), 4);
        // cells of T that are not in the frame
        ScanMachine small = cells(8);
        unit(small, 4, 0, load(4));
        check.same("start() with cell 4 of a frame of 4", small.start(), 4);
    }

    private static void arrayCells() {
        check.about("of 3, 4 a to a + c - 1");
        int[][] inside = {{0, 16}, {15, 1}, {0, 1}, {8, 8}, {1, 15}};
        for (int[] each : inside) {
            right(1, 1, Op.TAKE, each[0], 0, each[1]);
            right(2, 0, Op.PUT, each[0], 0, each[1]);
        }
        int[][] outside = {{0, 17}, {15, 2}, {16, 1}, {-1, 1}, {-1, 2}, {8, 9}, {1, 16}, {LEAST, 1}, {MOST, 1}, {0, MOST},
            {1, MOST}, {15, MOST}, {MOST, MOST}, {LEAST, MOST}};
        for (int[] each : outside) {
            among(4, Op.TAKE, each[0], 0, each[1]);
            among(4, Op.PUT, each[0], 0, each[1]);
        }
        for (int b : new int[] {LEAST, -1, 17, MOST}) {
            right(1, 1, Op.TAKE, 0, b, 16);
            right(2, 0, Op.PUT, 0, b, 16);
        }
    }

    private static void cellsOfOtherUnits() {
        check.about("of 5, 6 b in the frame of unit a");
        for (int b : new int[] {0, 3}) {
            right(0, 1, Op.READ, 0, b);
            right(1, 0, Op.WRITE, 0, b);
        }
        for (int b : new int[] {-1, 4, 15, LEAST, MOST}) {
            among(4, Op.READ, 0, b);
            among(4, Op.WRITE, 0, b);
        }
        // the frame of unit a, not that of this one
        ScanMachine x = cells(20);
        unit(x, 16, 4);
        unit(x, 4, 0, read(0, 15), write(0, 14));
        check.same("start() with a greater frame", x.start(), 0);
        ScanMachine y = cells(20);
        unit(y, 0, 4);
        unit(y, 4, 0, read(0, 0));
        check.same("start() with a frame of 0", y.start(), 4);
    }

    private static int entering(int frame, int b) {
        ScanMachine x = cells(8);
        unit(x, frame, -1);
        unit(x, 8, 0, enter(0, b));
        return x.start();
    }

    private static void enteredCells() {
        check.about("of 15 b on, as many as the frame of unit a has");
        int[][] inside = {{8, 0}, {4, 4}, {1, 7}, {4, 0}};
        for (int[] each : inside) {
            check.same(each[0] + " cells from " + each[1], entering(each[0], each[1]), 0);
        }
        int[][] outside = {{9, 0}, {8, 1}, {4, 5}, {1, 8}, {1, -1}, {4, -1}, {1, LEAST}, {1, MOST}, {4096, MOST}, {4096, 0}};
        for (int[] each : outside) {
            check.same(each[0] + " cells from " + each[1], entering(each[0], each[1]), 4);
        }
    }

    private static void enteredNone() {
        check.about("(b is 0 or more also if these are none)");
        for (int b : new int[] {0, 7, 8, 9, 4096, MOST}) {
            check.same("no cells from " + b, entering(0, b), 0);
        }
        for (int b : new int[] {-1, LEAST}) {
            check.same("no cells from " + b, entering(0, b), 4);
        }
        ScanMachine x = cells(8);
        unit(x, 0, -1, push(0), unless(2));
        unit(x, 8, 0, enter(0, MOST), push(1), store(0));
        check.same("start()", x.start(), 0);
        check.same("scan() with no cells far off", x.scan(0), 5);
    }

    private static void blockCells() {
        check.about("6 cells for kinds 0 to 4, 3 for 5 to 8");
        for (int kind = 0; kind <= 8; kind++) {
            int last = kind <= 4 ? 10 : 13;
            right(0, 0, Op.BLOCK, kind, 0);
            right(0, 0, Op.BLOCK, kind, last);
            for (int b : new int[] {-1, last + 1, 16, LEAST, MOST, MOST - 5}) {
                among(4, Op.BLOCK, kind, b);
            }
        }
    }

    /** start() of one row, and then a loop whose counter is cell 8. */
    private static void beforeLoop(int due, int... row) {
        ScanMachine x = cells(20);
        unit(x, 4, 16);
        unit(x, 4, -1);
        unit(x, 16, 0, row, count(8, 2), next(8, 4), back(2));
        check.same("start() with counter 8 and " + named(row), x.start(), due);
    }

    private static void counters() {
        check.about("FAULT 5: one of these cells is a counter");
        beforeLoop(10, Op.LOAD, 7);
        beforeLoop(5, Op.LOAD, 8);
        beforeLoop(10, Op.LOAD, 9);
        beforeLoop(8, Op.STORE, 7);
        beforeLoop(5, Op.STORE, 8);
        beforeLoop(8, Op.STORE, 9);
        for (int number : new int[] {Op.TAKE, Op.PUT}) {
            beforeLoop(8, number, 0, 0, 8);
            beforeLoop(5, number, 0, 0, 9);
            beforeLoop(5, number, 8, 0, 1);
            beforeLoop(5, number, 8, 0, 8);
            beforeLoop(8, number, 9, 0, 7);
        }
        beforeLoop(0, Op.ENTER, 1, 4);
        beforeLoop(5, Op.ENTER, 1, 5);
        beforeLoop(5, Op.ENTER, 1, 8);
        beforeLoop(0, Op.ENTER, 1, 9);
        for (int kind = 0; kind <= 8; kind++) {
            int many = kind <= 4 ? 6 : 3;
            beforeLoop(0, Op.BLOCK, kind, 8 - many);
            beforeLoop(5, Op.BLOCK, kind, 9 - many);
            beforeLoop(5, Op.BLOCK, kind, 8);
            beforeLoop(0, Op.BLOCK, kind, 9);
        }
        ScanMachine none = cells(8);
        unit(none, 0, -1);
        unit(none, 8, 0, enter(0, 3), count(3, 1), next(3, 4), back(2));
        check.same("start() with an ENTER of no cells at a counter", none.start(), 0);
    }

    private static void countersOfOtherUnits() {
        check.about("(of 5, 6: of unit a; otherwise of this unit)");
        int[][] due = {{2, 10, 8}, {3, 5, 5}};
        for (int[] each : due) {
            for (int number : new int[] {Op.READ, Op.WRITE}) {
                ScanMachine x = cells(8);
                unit(x, 4, 4, count(3, 1), next(3, 3), back(1));
                unit(x, 4, 0, Op.op(number, 0, each[0]));
                check.same(number + " of cell " + each[0], x.start(), number == Op.READ ? each[1] : each[2]);
            }
        }
        ScanMachine own = cells(8);
        unit(own, 4, 4);
        unit(own, 4, 0, read(0, 3), write(0, 3), count(3, 1), next(3, 5), back(3));
        check.same("start() with the number of an own counter", own.start(), 0);
        ScanMachine other = cells(8);
        unit(other, 4, 4, count(3, 1), next(3, 3), back(1));
        unit(other, 4, 0, load(3), store(3));
        check.same("start() with the number of another's counter", other.start(), 0);
        ScanMachine entered = cells(8);
        unit(entered, 4, -1, count(3, 1), next(3, 3), back(1));
        unit(entered, 8, 0, enter(0, 2), load(5), store(5));
        check.same("start() with the counter of one that is entered", entered.start(), 0);
    }

    private static void countersAsTheyAre() {
        check.about("The COUNTERS of a unit are the cells a of its instructions 12 and 13 (with b and a as they are, right or not).");
        starts(5, "a COUNT of -1 times behind", load(3), count(3, -1));
        starts(5, "a COUNT of too many times behind", load(3), count(3, 1_000_001));
        starts(5, "a NEXT that goes nowhere", load(3), next(3, -1));
        starts(5, "a NEXT without a COUNT", load(3), next(3, 2));
        starts(5, "a COUNT without a NEXT", load(3), count(3, 0));
        starts(5, "a COUNT as the first one, without a NEXT", count(3, 0), load(3));
        starts(5, "a counter behind a LEAVE", load(3), leave(), count(3, 0));
        starts(4, "a counter outside the frame, and an array up to it", take(0, 0, 17), count(16, 0));
        starts(4, "a counter of -1", load(0), count(-1, 0));
        starts(2, "a COUNT before, whose own fault comes first", count(3, -1), load(3));
    }

    private static void countersLeftOut() {
        check.about("12 and 13 are left out");
        starts(0, "a loop with its own counter", count(3, 1), next(3, 3), back(1));
        starts(0, "two loops with one counter", count(3, 1), next(3, 3), back(1), count(3, 1), next(3, 6), back(4));
    }

    private static void waysOn() {
        check.about("FAULT 6: where it goes: of 10, 11 a, of 13 b, is not behind this instruction, or is more than how many the unit has");
        for (int wrong : new int[] {-1, 0, 1, 5, 6, LEAST, MOST}) {
            starts(6, "GO to " + wrong, leave(), go(wrong), leave(), leave());
            starts(6, "UNLESS to " + wrong, push(0), unless(wrong), leave(), leave());
            starts(6, "NEXT to " + wrong, count(0, 1), next(0, wrong), leave(), back(1));
        }
        for (int right : new int[] {2, 3, 4}) {
            starts(0, "GO to " + right, leave(), go(right), leave(), leave());
            starts(0, "UNLESS to " + right, push(0), unless(right), leave(), leave());
        }
        starts(0, "NEXT to the end", count(0, 1), next(0, 4), leave(), back(1));
        starts(7, "NEXT to the next one", count(0, 1), next(0, 2), leave(), back(1));
        starts(0, "GO at the end to the end", go(1));
        starts(6, "GO at the end to itself", go(0));
        starts(6, "GO at the end behind the end", go(2));
    }

    private static void waysBack() {
        check.about("of 14 a is not before it");
        for (int wrong : new int[] {2, 3, 4, MOST, -1, LEAST}) {
            starts(6, "BACK to " + wrong, count(0, 1), next(0, 3), back(wrong), leave());
        }
        starts(0, "BACK to the one before", count(0, 1), next(0, 3), back(1), leave());
        starts(7, "BACK to the one before that", count(0, 1), next(0, 3), back(0), leave());
        starts(6, "BACK as the first one", back(0));
    }
}
