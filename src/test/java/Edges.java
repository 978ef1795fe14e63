/**
 * What the tests of the document's boundary sentences share: an instruction by its name, and programs made of
 * rows. Each Edges..Test has a method for each sentence, which begins with the sentence's words.
 */
abstract class Edges {
    static final int LEAST = Integer.MIN_VALUE, MOST = Integer.MAX_VALUE;
    static final int BAD = -1, ZERO = -2, INDEX = -3;
    static Check check;

    static int[] push(int a) {
        return Op.op(Op.PUSH, a);
    }

    static int[] load(int a) {
        return Op.op(Op.LOAD, a);
    }

    static int[] store(int a) {
        return Op.op(Op.STORE, a);
    }

    static int[] take(int a, int b, int c) {
        return Op.op(Op.TAKE, a, b, c);
    }

    static int[] put(int a, int b, int c) {
        return Op.op(Op.PUT, a, b, c);
    }

    static int[] read(int a, int b) {
        return Op.op(Op.READ, a, b);
    }

    static int[] write(int a, int b) {
        return Op.op(Op.WRITE, a, b);
    }

    static int[] two(int a) {
        return Op.op(Op.TWO, a);
    }

    static int[] one(int a) {
        return Op.op(Op.ONE, a);
    }

    static int[] choose() {
        return Op.op(Op.CHOOSE);
    }

    static int[] go(int a) {
        return Op.op(Op.GO, a);
    }

    static int[] unless(int a) {
        return Op.op(Op.UNLESS, a);
    }

    static int[] count(int a, int b) {
        return Op.op(Op.COUNT, a, b);
    }

    static int[] next(int a, int b) {
        return Op.op(Op.NEXT, a, b);
    }

    static int[] back(int a) {
        return Op.op(Op.BACK, a);
    }

    static int[] enter(int a, int b) {
        return Op.op(Op.ENTER, a, b);
    }

    static int[] call(int a) {
        return Op.op(Op.CALL, a);
    }

    static int[] block(int a, int b) {
        return Op.op(Op.BLOCK, a, b);
    }

    static int[] leave() {
        return Op.op(Op.LEAVE);
    }

    /** A machine of t cells with no units. */
    static ScanMachine cells(int t) {
        ScanMachine x = new ScanMachine();
        x.begin(t);
        return x;
    }

    /** One more unit, with its instructions. */
    static void unit(ScanMachine x, int frame, int place, int[]... rows) {
        x.unit(frame, place);
        Op.addAll(x, rows);
    }

    static String named(int[] row) {
        StringBuilder text = new StringBuilder();
        for (int each : row) {
            text.append(text.length() == 0 ? "" : " ").append(each);
        }
        return text.toString();
    }

    /** start() of a program of 16 cells. */
    static void starts(int due, String what, int[]... rows) {
        check.same("start() with " + what, Op.faultOf(16, rows), due);
    }

    /** A program of 16 cells that is proved. */
    static ScanMachine started(int[]... rows) {
        ScanMachine x = Op.program(16, rows);
        check.same("start()", x.start(), 0);
        return x;
    }

    /**
     * start(): unit 0 has 4 cells at 16, unit 1 has 4 cells and no place; the program of 16 cells has so many
     * PUSH, the row, and so many STORE.
     */
    static int between(int pushes, int[] row, int stores) {
        ScanMachine x = cells(20);
        unit(x, 4, 16);
        unit(x, 4, -1);
        unit(x, 16, 0);
        for (int k = 0; k < pushes; k++) {
            Op.addAll(x, push(0));
        }
        Op.addAll(x, row);
        for (int k = 0; k < stores; k++) {
            Op.addAll(x, store(0));
        }
        return x.start();
    }

    static void counts(ScanMachine x, String when, int... due) {
        for (int which = 0; which < due.length; which++) {
            check.same("count(" + which + ") " + when, x.count(which), due[which]);
        }
    }
}
