/** The boundary sentences of fault 1, and the order in which units are proved. */
public final class EdgesOfPlacesTest extends Edges {
    public static void main(String[] args) {
        check = new Check("EdgesOfPlacesTest");
        programAt0();
        belowT();
        cellsOfAnother();
        oneAfterTheOther();
        check.end();
    }

    /** start() of units without instructions, each {frame, place}, over t cells. */
    private static void placed(int due, int t, int[]... units) {
        ScanMachine x = cells(t);
        StringBuilder what = new StringBuilder("start() of T " + t);
        for (int[] each : units) {
            x.unit(each[0], each[1]);
            what.append(", ").append(each[0]).append(" at ").append(each[1]);
        }
        check.same(what.toString(), x.start(), due);
    }

    private static int[] at(int frame, int place) {
        return new int[] {frame, place};
    }

    private static void programAt0() {
        check.about("FAULT 1 (at -1), if the unit is the program and its place is not 0");
        placed(0, 8, at(2, 0));
        placed(1, 8, at(2, 1));
        placed(1, 8, at(2, -1));
        placed(1, 8, at(2, 6));
        placed(0, 8, at(0, 0));
        placed(1, 8, at(0, 1));
        placed(1, 8, at(0, -1));
        placed(1, 8, at(0, 4095));
        placed(0, 8, at(2, 1), at(1, 0));
        placed(0, 8, at(2, -1), at(1, 0));
        placed(0, 8, at(0, 0), at(8, 0));
    }

    private static void belowT() {
        check.about("or has a place and cells from there on that are not all below T");
        placed(0, 8, at(8, 0));
        placed(1, 8, at(9, 0));
        placed(0, 1, at(1, 0));
        placed(1, 1, at(2, 0));
        placed(0, 4096, at(4096, 0));
        placed(1, 4095, at(4096, 0));
        placed(0, 8, at(1, 7), at(7, 0));
        placed(1, 8, at(2, 7), at(7, 0));
        placed(1, 8, at(1, 8), at(8, 0));
        placed(0, 8, at(5, 3), at(3, 0));
        placed(1, 8, at(6, 3), at(3, 0));
        placed(1, 8, at(4096, 4095), at(3, 0));
        placed(0, 4096, at(1, 4095), at(4095, 0));
        placed(1, 4096, at(2, 4095), at(4095, 0));
        // no place, or no cells: nothing that could lie too high
        placed(0, 8, at(4096, -1), at(8, 0));
        placed(0, 8, at(0, 8), at(8, 0));
        placed(0, 8, at(0, 4095), at(8, 0));
    }

    private static void cellsOfAnother() {
        check.about("or one of them is a cell of another unit before that has a place");
        placed(0, 8, at(4, 4), at(4, 0));
        placed(1, 8, at(4, 4), at(5, 0));
        placed(1, 8, at(4, 3), at(4, 0));
        placed(1, 8, at(1, 3), at(4, 0));
        placed(1, 8, at(1, 0), at(4, 0));
        placed(0, 8, at(1, 4), at(4, 0));
        placed(0, 12, at(3, 6), at(2, 9), at(2, 4), at(4, 0));
        placed(1, 12, at(3, 6), at(2, 8), at(2, 4), at(4, 0));
        placed(1, 12, at(3, 6), at(2, 9), at(3, 4), at(4, 0));
        placed(1, 12, at(5, 6), at(1, 8), at(4, 0));
        placed(1, 12, at(1, 8), at(5, 6), at(4, 0));
        placed(1, 12, at(2, 4), at(2, 6), at(2, 8), at(2, 5), at(4, 0));
        // units without a place, and without cells, have none that another could have
        placed(0, 8, at(8, -1), at(8, -1), at(8, 0));
        placed(0, 8, at(0, 3), at(8, 0));
        placed(0, 8, at(4, 4), at(0, 5), at(4, 0));
        placed(0, 8, at(0, 5), at(4, 4), at(4, 0));
    }

    private static void oneAfterTheOther() {
        check.about("PROVED are units one after the other.");
        ScanMachine x = cells(8);
        unit(x, 2, 9, Op.op(99));
        unit(x, 2, 0, Op.op(99));
        check.same("1 of unit 0 before its instructions", x.start(), 1);
        ScanMachine y = cells(8);
        unit(y, 2, -1, Op.op(99));
        unit(y, 2, 9);
        check.same("2 of unit 0 before 1 of unit 1", y.start(), 2);
        ScanMachine z = cells(8);
        unit(z, 2, -1, push(1));
        unit(z, 2, 0, Op.op(99));
        check.same("10 of unit 0 before 2 of unit 1", z.start(), 10);
        ScanMachine w = cells(8);
        unit(w, 2, -1, count(0, 1_000_000), next(0, 6), count(1, 1_000_000), next(1, 5), back(3), back(1));
        unit(w, 2, 7);
        check.same("11 of unit 0 before 1 of unit 1", w.start(), 11);
        ScanMachine v = cells(8);
        unit(v, 2, -1, leave());
        unit(v, 2, 0, Op.op(99));
        check.same("2 of unit 1 behind a unit without a fault", v.start(), 2);
    }
}
