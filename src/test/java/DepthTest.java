/** Promise 5, faults 8 to 10: the stack. */
public final class DepthTest {
    private static final int[] PUSH = Op.op(Op.PUSH, 1), STORE = Op.op(Op.STORE, 0), LEAVE = Op.op(Op.LEAVE);
    private static final Check check = new Check("DepthTest");

    public static void main(String[] args) {
        taken();
        deep();
        unlike();
        leftOut();
        check.end();
    }

    private static void due(String what, int due, int[]... rows) {
        check.same(what, Op.faultOf(8, rows), due);
    }

    /** A program that pushes, does one row, and stores what it leaves, is right; with one push less it is not. */
    private static void taken() {
        int[][] rows = {{Op.PUSH, 0}, {Op.LOAD, 0}, {Op.STORE, 0}, {Op.TAKE, 0, 0, 1}, {Op.PUT, 0, 0, 1},
            {Op.READ, 0, 0}, {Op.WRITE, 0, 0}, {Op.TWO, 5}, {Op.ONE, 1}, {Op.CHOOSE}, {Op.BLOCK, 0, 0}, {Op.CALL, 0}};
        int[] takes = {0, 0, 1, 1, 2, 0, 1, 2, 1, 3, 0, 0};
        int[] leaves = {1, 1, 0, 1, 0, 1, 0, 1, 1, 1, 0, 0};
        for (int k = 0; k < rows.length; k++) {
            check.same(rows[k][0] + " with enough", around(takes[k], rows[k], leaves[k]), 0);
            if (takes[k] > 0) {
                check.same(rows[k][0] + " with too few", around(takes[k] - 1, rows[k], leaves[k]), 8);
            }
            check.same(rows[k][0] + " with one left over", around(takes[k] + 1, rows[k], leaves[k]), 10);
            check.same(rows[k][0] + " and one store more", around(takes[k], rows[k], leaves[k] + 1), 8);
        }
        due("UNLESS without a number", 8, Op.op(Op.UNLESS, 1));
        due("UNLESS", 0, PUSH, Op.op(Op.UNLESS, 2));
    }

    private static int around(int pushes, int[] row, int stores) {
        ScanMachine x = new ScanMachine();
        x.unit(2, 32);
        x.unit(32, 0);
        for (int k = 0; k < pushes; k++) {
            Op.addAll(x, PUSH);
        }
        Op.addAll(x, row);
        for (int k = 0; k < stores; k++) {
            Op.addAll(x, STORE);
        }
        return x.start();
    }

    private static int[][] heap(int pushes) {
        int[][] rows = new int[2 * pushes][];
        for (int k = 0; k < pushes; k++) {
            rows[k] = PUSH;
            rows[pushes + k] = STORE;
        }
        return rows;
    }

    private static void deep() {
        due("64 deep", 0, heap(64));
        due("65 deep", 9, heap(65));
        int[][] rows = new int[66][];
        java.util.Arrays.fill(rows, PUSH);
        rows[64] = Op.op(Op.TWO, 0);
        due("64 deep, and two taken before one is left", 10, rows);
        rows[64] = Op.op(Op.LOAD, 0);
        due("65 deep by LOAD", 9, rows);
    }

    private static void unlike() {
        due("one at the end", 10, PUSH);
        due("one at LEAVE", 10, PUSH, LEAVE);
        due("one at a GO to the end", 10, PUSH, Op.op(Op.GO, 2));
        due("two ways that meet unlike", 10, PUSH, Op.op(Op.UNLESS, 3), PUSH, STORE);
        due("two ways that meet alike", 0, PUSH, Op.op(Op.UNLESS, 4), PUSH, Op.op(Op.GO, 5), PUSH, STORE);
        due("two ways that go to the end unlike", 10, PUSH, PUSH, Op.op(Op.UNLESS, 4), STORE);
        due("a loop that leaves one each time", 10, Op.op(Op.COUNT, 1, 2), Op.op(Op.NEXT, 1, 4), PUSH, Op.op(Op.BACK, 1));
        due("a loop that takes one each time", 10, PUSH, Op.op(Op.COUNT, 1, 1), Op.op(Op.NEXT, 1, 5), STORE,
                Op.op(Op.BACK, 2));
        due("a loop that is left with one more", 10, Op.op(Op.COUNT, 1, 2), Op.op(Op.NEXT, 1, 6), PUSH, PUSH,
                Op.op(Op.UNLESS, 6), Op.op(Op.BACK, 1));
    }

    private static void leftOut() {
        due("behind LEAVE nothing is looked at", 0, LEAVE, STORE, STORE, PUSH);
        due("behind GO nothing is looked at", 0, Op.op(Op.GO, 2), STORE);
        due("an UNLESS that is left out goes nowhere", 0, Op.op(Op.GO, 3), PUSH, Op.op(Op.UNLESS, 4), LEAVE);
        due("where a GO goes all is looked at", 8, Op.op(Op.GO, 2), LEAVE, STORE);
        due("behind a loop that is always left", 8, Op.op(Op.COUNT, 1, 2), Op.op(Op.NEXT, 1, 4), LEAVE, Op.op(Op.BACK, 1),
                STORE);
        due("in a loop that is gone through 0 times", 8, Op.op(Op.COUNT, 1, 0), Op.op(Op.NEXT, 1, 4), STORE,
                Op.op(Op.BACK, 1));
    }
}
