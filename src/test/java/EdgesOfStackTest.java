/** The boundary sentences of faults 8 to 10, and of what is taken and left. */
public final class EdgesOfStackTest extends Edges {
    public static void main(String[] args) {
        check = new Check("EdgesOfStackTest");
        takenAndLeft();
        leftOut();
        takesMore();
        above64();
        ofEachUnit();
        anotherDepth();
        theUnitsEnd();
        beforeTheSteps();
        check.end();
    }

    /** The rows of instructions that go on to the next one, and how many numbers each one takes and leaves. */
    private static final int[][] ROWS = {push(0), load(0), store(0), take(0, 0, 1), put(0, 0, 1), read(0, 0), write(0, 0),
        two(5), one(1), choose(), enter(1, 0), call(0), block(0, 0)};
    private static final int[] TAKEN = {0, 0, 1, 1, 2, 0, 1, 2, 1, 3, 0, 0, 0};
    private static final int[] LEFT = {1, 1, 0, 1, 0, 1, 0, 1, 1, 1, 0, 0, 0};

    private static void takenAndLeft() {
        check.about("it takes numbers from the stack, and leaves some on it (taken / left)");
        for (int k = 0; k < ROWS.length; k++) {
            String name = "start() with " + named(ROWS[k]);
            check.same(name, between(TAKEN[k], ROWS[k], LEFT[k]), 0);
            check.same(name + " and one more before it", between(TAKEN[k] + 1, ROWS[k], LEFT[k]), 10);
            check.same(name + " and one more stored", between(TAKEN[k], ROWS[k], LEFT[k] + 1), 8);
        }
        starts(0, "GO with 1", push(0), go(2), store(0));
        starts(0, "a loop with 1", push(0), count(1, 1), next(1, 4), back(2), store(0));
        starts(0, "UNLESS with 2", push(0), push(0), unless(3), store(0));
    }

    private static void leftOut() {
        check.about("an instruction to which none of those that were looked at goes is left out");
        starts(0, "STORE behind LEAVE", leave(), store(0));
        starts(0, "PUSH at the end behind LEAVE", leave(), push(0));
        starts(0, "STORE behind GO", go(2), store(0));
        starts(8, "STORE where a GO goes", go(2), leave(), store(0));
        starts(0, "STORE that a GO which is left out goes to", leave(), go(3), leave(), store(0));
        starts(0, "STORE behind an UNLESS that is left out", go(3), push(0), unless(5), leave(), store(0));
        starts(8, "STORE behind an UNLESS", push(0), unless(2), store(0));
        starts(0, "65 PUSH behind LEAVE", withMany(65, leave()));
        starts(0, "a loop behind LEAVE that leaves one each time", leave(), count(1, 1), next(1, 5), push(0), back(2));
        starts(8, "STORE behind a loop that is always left", count(1, 1), next(1, 4), leave(), back(1), store(0));
        starts(8, "STORE in a loop of 0 times", count(1, 0), next(1, 4), store(0), back(1));
        starts(0, "a last 14 that is left out", count(1, 1), next(1, 5), go(5), push(0), back(1));
    }

    /** The row, and so many PUSH behind it. */
    private static int[][] withMany(int pushes, int[] first) {
        int[][] rows = new int[pushes + 1][];
        java.util.Arrays.fill(rows, push(0));
        rows[0] = first;
        return rows;
    }

    private static void takesMore() {
        check.about("FAULT 8: it takes more than the depth.");
        for (int k = 0; k < ROWS.length; k++) {
            for (int pushes = 0; pushes < TAKEN[k]; pushes++) {
                String name = "start() with " + named(ROWS[k]) + " behind " + pushes;
                check.same(name, between(pushes, ROWS[k], LEFT[k]), 8);
            }
        }
        starts(8, "UNLESS behind 0", unless(1));
        starts(0, "UNLESS behind 1", push(0), unless(2));
        starts(8, "the first one", store(0), push(0));
    }

    private static int heap(int pushes, int[] top) {
        ScanMachine x = Op.program(16);
        for (int k = 0; k < pushes; k++) {
            Op.addAll(x, push(k));
        }
        Op.addAll(x, top);
        for (int k = 0; k < pushes; k++) {
            Op.addAll(x, store(0));
        }
        return x.start();
    }

    private static void above64() {
        check.about("FAULT 9: the depth behind it is above 64.");
        check.same("63 and a row that leaves none", heap(63, block(0, 0)), 0);
        check.same("64 and a row that leaves none", heap(64, block(0, 0)), 0);
        check.same("65 and a row that leaves none", heap(65, block(0, 0)), 9);
        check.same("64 and one that takes one and leaves one", heap(64, one(1)), 0);
        check.same("64 and PUSH", heap(64, push(0)), 9);
        check.same("64 and LOAD", heap(64, load(0)), 9);
        check.same("63 and PUSH", heap(63, push(0)), 10);
        ScanMachine x = Op.program(16);
        for (int k = 0; k < 64; k++) {
            Op.addAll(x, push(k));
        }
        for (int k = 0; k < 64; k++) {
            Op.addAll(x, store(k % 16));
        }
        check.same("start() of 64", x.start(), 0);
        check.same("scan() of 64", x.scan(0), 128);
        check.same("count(5) of 64", x.count(5), 64);
        check.same("the number that came off last", x.get(15), 0);
        check.same("the one before", x.get(14), 1);
    }

    private static void ofEachUnit() {
        check.about("the first one begins with a DEPTH of 0");
        starts(8, "a number before the first one", store(0));
        // 64 in each of two units that lie on one another: no unit has more
        ScanMachine x = cells(16);
        unit(x, 4, -1);
        fill(x, 64, 0);
        x.unit(16, 0);
        fill(x, 63, 1);
        check.same("start() of 64 over 63", x.start(), 0);
        check.same("scan() of 64 over 63", x.scan(0), 2 * 64 + 2 * 63 + 1);
        check.same("count(5) of 64 over 63", x.count(5), 127);
        ScanMachine y = cells(16);
        unit(y, 4, -1, store(0), push(0));
        unit(y, 16, 0, push(0), enter(0, 0), store(0));
        check.same("a unit that takes what another one has", y.start(), 8);
    }

    /** So many PUSH and STORE, and between them so many ENTER of unit 0. */
    private static void fill(ScanMachine x, int many, int enters) {
        for (int k = 0; k < many; k++) {
            Op.addAll(x, push(k));
        }
        for (int k = 0; k < enters; k++) {
            Op.addAll(x, enter(0, 0));
        }
        for (int k = 0; k < many; k++) {
            Op.addAll(x, store(0));
        }
    }

    private static void anotherDepth() {
        check.about("FAULT 10: it goes to where one went before with another depth");
        starts(0, "the same by UNLESS and by the next", push(0), push(0), unless(4), go(4), store(0));
        starts(10, "one more by the next", push(0), unless(3), push(0), leave());
        starts(10, "one less by the next", push(0), push(0), unless(4), store(0), store(0));
        starts(0, "the same by GO", push(0), unless(4), push(1), go(5), push(2), store(0));
        starts(10, "another one by GO", push(0), unless(4), push(1), go(6), push(2), store(0), leave());
        starts(10, "one more by BACK", count(1, 1), next(1, 4), push(0), back(1));
        starts(10, "one less by BACK", push(0), count(1, 1), next(1, 5), store(0), back(2));
        starts(0, "the same by BACK", count(1, 1), next(1, 5), push(0), store(0), back(1));
        starts(0, "the same by NEXT and GO", count(1, 1), next(1, 4), go(4), back(1), push(0), store(0));
        starts(10, "one more out of a loop", count(1, 1), next(1, 7), push(0), push(0), unless(7), store(0), back(1), leave());
    }

    private static void theUnitsEnd() {
        check.about("(the first instruction: 0; the unit's end: 0 in any case)");
        starts(0, "0 behind the last one", push(0), store(0));
        starts(10, "1 behind the last one", push(0));
        starts(10, "1 at LEAVE", push(0), leave());
        starts(10, "1 at LEAVE, though all is stored behind", push(0), leave(), store(0));
        starts(10, "1 at a GO to the end", push(0), go(3), store(0));
        starts(10, "1 at an UNLESS to the end", push(0), push(0), unless(4), store(0));
        starts(10, "1 at a NEXT to the end", push(0), count(1, 1), next(1, 4), back(2));
        starts(0, "0 at a NEXT to the end", count(1, 1), next(1, 3), back(1));
        starts(10, "1 at a LEAVE in a loop", count(1, 1), next(1, 5), push(0), leave(), back(1));
        starts(0, "a unit without instructions");
    }

    private static void beforeTheSteps() {
        check.about("Then its instructions in order, for the STACK");
        starts(8, "10 behind 8", store(0), push(0));
        starts(10, "8 behind 10", push(0), unless(3), push(0), choose());
        starts(10, "11 before it", count(0, 1_000_000), next(0, 6), count(1, 1_000_000), next(1, 5), back(3), back(1),
                push(0));
    }
}
