/** Promise 5, fault 7: what a loop is, and who may go where. */
public final class LoopsTest {
    private static final Check check = new Check("LoopsTest");

    public static void main(String[] args) {
        single();
        nested();
        goesIn();
        check.end();
    }

    private static int[] count(int counter) {
        return Op.op(Op.COUNT, counter, 2);
    }

    private static int[] next(int counter, int behind) {
        return Op.op(Op.NEXT, counter, behind);
    }

    private static int[] back(int to) {
        return Op.op(Op.BACK, to);
    }

    private static int[] go(int to) {
        return Op.op(Op.GO, to);
    }

    private static int[] unless(int to) {
        return Op.op(Op.UNLESS, to);
    }

    private static final int[] PUSH = Op.op(Op.PUSH, 0);
    private static final int[] STORE = Op.op(Op.STORE, 7);
    private static final int[] LEAVE = Op.op(Op.LEAVE);

    private static void due(String what, int due, int[]... rows) {
        check.same(what, Op.faultOf(8, rows), due);
    }

    private static void single() {
        due("an empty loop", 0, count(0), next(0, 3), back(1));
        due("COUNT at the end", 7, count(0));
        due("COUNT before another instruction", 7, count(0), LEAVE, next(0, 4), back(2));
        due("COUNT before a NEXT of another counter", 7, count(0), next(1, 3), back(1));
        due("NEXT without a COUNT", 7, next(0, 2), back(0));
        due("NEXT behind another instruction", 7, LEAVE, next(0, 3), back(1));
        due("NEXT that goes right behind itself", 7, count(0), next(0, 2), back(1));
        due("NEXT whose loop ends without a BACK", 7, count(0), next(0, 3), LEAVE);
        due("NEXT whose loop ends before the BACK", 7, count(0), next(0, 3), LEAVE, back(1));
        due("NEXT whose loop ends behind the BACK", 7, count(0), next(0, 4), back(1), LEAVE);
        due("BACK to a COUNT", 7, count(0), next(0, 3), back(0));
        due("BACK to no loop", 7, LEAVE, back(0));
        due("a second BACK", 7, count(0), next(0, 4), back(1), back(1));
        due("a loop twice with one counter", 0, count(0), next(0, 3), back(1), count(0), next(0, 6), back(4));
        due("no way to a wrong loop", 7, LEAVE, count(0));
    }

    private static void nested() {
        due("one in another", 0, count(0), next(0, 6), count(1), next(1, 5), back(3), back(1));
        due("one in another with the same counter", 7, count(0), next(0, 6), count(0), next(0, 5), back(3), back(1));
        due("three, the last one with the counter of the first", 7, count(0), next(0, 9), count(1), next(1, 8),
                count(0), next(0, 7), back(5), back(3), back(1));
        due("three in one another", 0, count(0), next(0, 9), count(1), next(1, 8),
                count(2), next(2, 7), back(5), back(3), back(1));
        due("two in one with one counter", 0, count(0), next(0, 9), count(1), next(1, 5), back(3), count(1), next(1, 8),
                back(6), back(1));
        due("two across one another", 7, count(0), next(0, 5), count(1), next(1, 6), back(1), back(3));
    }

    private static void goesIn() {
        due("GO to a COUNT", 0, go(1), count(0), next(0, 4), back(2));
        due("GO to a NEXT", 7, go(2), count(0), next(0, 4), back(2));
        due("GO into a loop", 7, go(3), count(0), next(0, 4), back(2));
        due("GO behind a loop", 0, go(4), count(0), next(0, 4), back(2));
        due("UNLESS to a NEXT", 7, PUSH, unless(3), count(0), next(0, 5), back(3));
        due("UNLESS into a loop", 7, PUSH, unless(4), count(0), next(0, 5), back(3));
        due("UNLESS behind a loop", 0, PUSH, unless(5), count(0), next(0, 5), back(3));
        due("GO in a loop to its BACK", 0, count(0), next(0, 4), go(3), back(1));
        due("GO out of a loop", 0, count(0), next(0, 4), go(4), back(1));
        due("UNLESS out of a loop", 0, count(0), next(0, 5), PUSH, unless(5), back(1));
        due("GO from a loop into another", 7, count(0), next(0, 4), go(6), back(1), count(0), next(0, 7), back(5));
        due("GO from a loop to another's COUNT", 0, count(0), next(0, 4), go(4), back(1), count(0), next(0, 7), back(5));
        due("GO into an inner loop", 7, count(0), next(0, 7), go(5), count(1), next(1, 6), back(4), back(1));
        due("GO over an inner loop", 0, count(0), next(0, 7), go(6), count(1), next(1, 6), back(4), back(1));
        due("GO out of an inner loop into the outer one", 0, count(0), next(0, 7), count(1), next(1, 6), go(6), back(3),
                back(1));
        due("GO out of both", 0, count(0), next(0, 7), count(1), next(1, 6), go(7), back(3), back(1));
        due("LEAVE in a loop", 0, count(0), next(0, 4), LEAVE, back(1));
        due("a loop over a number on the stack", 0, PUSH, count(0), next(0, 4), back(2), STORE);
    }
}
