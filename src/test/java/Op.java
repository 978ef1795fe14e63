/** The numbers of the instructions, by their names in the document. */
final class Op {
    static final int PUSH = 0, LOAD = 1, STORE = 2, TAKE = 3, PUT = 4, READ = 5, WRITE = 6, TWO = 7, ONE = 8;
    static final int CHOOSE = 9, GO = 10, UNLESS = 11, COUNT = 12, NEXT = 13, BACK = 14, ENTER = 15, CALL = 16;
    static final int BLOCK = 17, LEAVE = 18;

    private Op() {
    }

    /** Instructions, each a row {number, a, b, c} whose missing operands are 0. */
    static void addAll(ScanMachine machine, int[]... rows) {
        for (int[] row : rows) {
            machine.add(row[0], operand(row, 1), operand(row, 2), operand(row, 3));
        }
    }

    private static int operand(int[] row, int which) {
        return which < row.length ? row[which] : 0;
    }

    static int[] op(int... numberAndOperands) {
        return numberAndOperands;
    }

    /** A new machine of t cells whose only unit has all of them. */
    static ScanMachine program(int t, int[]... rows) {
        ScanMachine machine = new ScanMachine();
        machine.begin(t);
        machine.unit(t, 0);
        addAll(machine, rows);
        return machine;
    }

    static int faultOf(int t, int[]... rows) {
        return program(t, rows).start();
    }
}
