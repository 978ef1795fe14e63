/** Promise 6: the blocks. */
public final class BlocksTest {
    private static final int LEAST = Integer.MIN_VALUE, MOST = Integer.MAX_VALUE;
    private static final Check check = new Check("BlocksTest");

    public static void main(String[] args) {
        onDelay();
        offDelay();
        pulse();
        up();
        down();
        edges();
        latches();
        spoiltCells();
        inEnteredUnits();
        check.end();
    }

    /** A block whose cells are 2 on, among cells that it must leave alone. */
    private static ScanMachine block(int kind) {
        ScanMachine x = Op.program(10, Op.op(Op.BLOCK, kind, 2));
        check.same("start() of " + kind, x.start(), 0);
        return x;
    }

    private static void cells(String what, ScanMachine x, int... due) {
        for (int k = 0; k < due.length; k++) {
            check.same(what + ", cell " + k, x.get(2 + k), due[k]);
        }
        check.same(what + ", the cell before", x.get(1), 0);
        check.same(what + ", the cell behind", x.get(2 + due.length), 0);
    }

    /** A scan with the first input set before it, and the cells behind it. */
    private static void scan(String what, ScanMachine x, int in, int ticks, int... due) {
        x.set(2, in);
        check.same(what + ", its step", x.scan(ticks), 1);
        cells(what, x, due);
    }

    private static void onDelay() {
        ScanMachine x = block(0);
        x.set(3, 10);
        scan("TON off", x, 0, 5, 0, 10, 0, 0, 0, 5);
        scan("TON on", x, 1, 5, 1, 10, 0, 0, 1, 10);
        scan("TON 9", x, 1, 9, 1, 10, 0, 9, 1, 19);
        scan("TON 10", x, 1, 1, 1, 10, 1, 10, 1, 20);
        scan("TON goes no higher", x, 1, 100, 1, 10, 1, 10, 1, 120);
        scan("TON off again", x, 0, 3, 0, 10, 0, 0, 0, 123);
        scan("TON by any number", x, -8, 3, -8, 10, 0, 0, 1, 126);
        scan("TON over the time", x, 5, 30, 5, 10, 1, 10, 1, 156);
        x.set(3, 0);
        scan("TON off", x, 0, 0, 0, 0, 0, 0, 0, 156);
        scan("TON of no time", x, 1, 0, 1, 0, 1, 0, 1, 156);
        x.set(3, -4);
        scan("TON of less than no time", x, 1, 2, 1, -4, 1, 0, 1, 158);
    }

    private static void offDelay() {
        ScanMachine x = block(1);
        x.set(3, 10);
        scan("TOF off", x, 0, 5, 0, 10, 0, 0, 0, 5);
        scan("TOF on", x, 1, 5, 1, 10, 1, 0, 1, 10);
        scan("TOF on still", x, 1, 50, 1, 10, 1, 0, 1, 60);
        scan("TOF begins", x, 0, 7, 0, 10, 1, 0, 0, 67);
        scan("TOF 9", x, 0, 9, 0, 10, 1, 9, 0, 76);
        scan("TOF 10", x, 0, 1, 0, 10, 0, 10, 0, 77);
        scan("TOF stays", x, 0, 8, 0, 10, 0, 10, 0, 85);
        scan("TOF on again", x, 3, 1, 3, 10, 1, 0, 1, 86);
        scan("TOF begins again", x, 0, 1, 0, 10, 1, 0, 0, 87);
        scan("TOF 4", x, 0, 4, 0, 10, 1, 4, 0, 91);
        scan("TOF on in between", x, 1, 4, 1, 10, 1, 0, 1, 95);
        x.set(3, 0);
        scan("TOF of no time", x, 0, 4, 0, 0, 0, 0, 0, 99);
        x.set(3, -1);
        scan("TOF on", x, 1, 0, 1, -1, 1, 0, 1, 99);
        scan("TOF of less than no time", x, 0, 0, 0, -1, 0, 0, 0, 99);
    }

    private static void pulse() {
        ScanMachine x = block(2);
        x.set(3, 10);
        scan("TP off", x, 0, 5, 0, 10, 0, 0, 0, 5);
        scan("TP on", x, 1, 5, 1, 10, 1, 0, 1, 10);
        scan("TP 4 though off", x, 0, 4, 0, 10, 1, 4, 0, 14);
        scan("TP 8 though on again", x, 1, 4, 1, 10, 1, 8, 1, 18);
        scan("TP at its end, on", x, 1, 4, 1, 10, 0, 10, 1, 22);
        scan("TP stays while on", x, 1, 4, 1, 10, 0, 10, 1, 26);
        scan("TP off again", x, 0, 4, 0, 10, 0, 0, 0, 30);
        scan("TP on again", x, 9, 1, 9, 10, 1, 0, 1, 31);
        scan("TP off", x, 0, 1, 0, 10, 1, 1, 0, 32);
        scan("TP at its end, off", x, 0, 9, 0, 10, 0, 0, 0, 41);
        scan("TP on", x, 1, 0, 1, 10, 1, 0, 1, 41);
        scan("TP off", x, 0, 2, 0, 10, 1, 2, 0, 43);
        scan("TP ends and begins at once", x, 1, 20, 1, 10, 1, 0, 1, 63);
        x.set(4, 7);
        scan("TP leaves a Q that is not 0", x, 1, 3, 1, 10, 7, 3, 1, 66);
        x.set(3, 0);
        scan("TP of no time ends", x, 0, 3, 0, 0, 0, 0, 0, 69);
        scan("TP of no time does not begin", x, 1, 3, 1, 0, 0, 0, 1, 72);
    }

    private static void up() {
        ScanMachine x = block(3);
        x.set(4, 2);
        scan("CTU off", x, 0, 0, 0, 0, 2, 0, 0, 0);
        scan("CTU 1", x, 4, 0, 4, 0, 2, 0, 1, 1);
        scan("CTU without an edge", x, 1, 0, 1, 0, 2, 0, 1, 1);
        scan("CTU off", x, 0, 0, 0, 0, 2, 0, 1, 0);
        scan("CTU 2", x, 1, 0, 1, 0, 2, 1, 2, 1);
        scan("CTU off", x, 0, 0, 0, 0, 2, 1, 2, 0);
        x.set(3, -6);
        scan("CTU R before CU", x, 1, 0, 1, -6, 2, 0, 0, 1);
        x.set(3, 0);
        scan("CTU the edge is gone", x, 1, 0, 1, 0, 2, 0, 0, 1);
        scan("CTU off", x, 0, 0, 0, 0, 2, 0, 0, 0);
        x.set(6, 32766);
        scan("CTU up to 32767", x, 1, 0, 1, 0, 2, 1, 32767, 1);
        scan("CTU off", x, 0, 0, 0, 0, 2, 1, 32767, 0);
        scan("CTU no higher", x, 1, 0, 1, 0, 2, 1, 32767, 1);
        x.set(6, 40000);
        scan("CTU off", x, 0, 0, 0, 0, 2, 1, 40000, 0);
        scan("CTU above already", x, 1, 0, 1, 0, 2, 1, 40000, 1);
        x.set(4, 40001);
        scan("CTU below PV", x, 0, 0, 0, 0, 40001, 0, 40000, 0);
        x.set(4, 0);
        x.set(6, 0);
        scan("CTU of 0", x, 0, 0, 0, 0, 0, 1, 0, 0);
    }

    private static void down() {
        ScanMachine x = block(4);
        x.set(4, 2);
        scan("CTD off", x, 0, 0, 0, 0, 2, 1, 0, 0);
        x.set(3, 5);
        scan("CTD loads before CD", x, 1, 0, 1, 5, 2, 0, 2, 1);
        x.set(3, 0);
        scan("CTD the edge is gone", x, 1, 0, 1, 0, 2, 0, 2, 1);
        scan("CTD off", x, 0, 0, 0, 0, 2, 0, 2, 0);
        scan("CTD 1", x, -1, 0, -1, 0, 2, 0, 1, 1);
        scan("CTD off", x, 0, 0, 0, 0, 2, 0, 1, 0);
        scan("CTD 0", x, 1, 0, 1, 0, 2, 1, 0, 1);
        scan("CTD off", x, 0, 0, 0, 0, 2, 1, 0, 0);
        scan("CTD -1", x, 1, 0, 1, 0, 2, 1, -1, 1);
        scan("CTD off", x, 0, 0, 0, 0, 2, 1, -1, 0);
        x.set(6, -32767);
        scan("CTD down to -32768", x, 1, 0, 1, 0, 2, 1, -32768, 1);
        scan("CTD off", x, 0, 0, 0, 0, 2, 1, -32768, 0);
        scan("CTD no lower", x, 1, 0, 1, 0, 2, 1, -32768, 1);
        x.set(3, 1);
        x.set(4, 100000);
        scan("CTD loads any number", x, 0, 0, 0, 1, 100000, 0, 100000, 0);
    }

    private static void edges() {
        ScanMachine x = block(5);
        scan("R_TRIG 0", x, 0, 0, 0, 0, 0);
        scan("R_TRIG up", x, 6, 0, 6, 1, 1);
        scan("R_TRIG on", x, 1, 0, 1, 0, 1);
        scan("R_TRIG down", x, 0, 0, 0, 0, 0);
        x.set(4, -3);
        scan("R_TRIG with an M that is not 0", x, 1, 0, 1, 0, 1);
        ScanMachine y = block(6);
        scan("F_TRIG 0", y, 0, 0, 0, 0, 0);
        scan("F_TRIG up", y, 6, 0, 6, 0, 1);
        scan("F_TRIG on", y, 1, 0, 1, 0, 1);
        scan("F_TRIG down", y, 0, 0, 0, 1, 0);
        scan("F_TRIG off", y, 0, 0, 0, 0, 0);
        y.set(4, -3);
        scan("F_TRIG with an M that is not 0", y, 0, 0, 0, 1, 0);
    }

    private static void latches() {
        int[] due7 = {0, 1, 0, 0, 1, 1, 1, 1};
        int[] due8 = {0, 1, 0, 0, 1, 1, 0, 0};
        for (int k = 0; k < 8; k++) {
            int s = (k & 4) != 0 ? 2 : 0;
            int r = (k & 2) != 0 ? -2 : 0;
            int q = (k & 1) != 0 ? 9 : 0;
            ScanMachine x = block(7);
            x.set(3, r);
            x.set(4, q);
            scan("SR " + k, x, s, 0, s, r, due7[k]);
            ScanMachine y = block(8);
            y.set(3, r);
            y.set(4, q);
            scan("RS " + k, y, s, 0, s, r, due8[k]);
        }
    }

    /** GROWN without a bound, and then in 32 bits. */
    private static void spoiltCells() {
        ScanMachine x = block(0);
        x.set(3, MOST);
        x.set(5, MOST);
        x.set(6, 1);
        scan("ET + D above 32 bits", x, 1, 100, 1, MOST, 1, MOST, 1, 100);
        x.set(5, -50);
        x.set(7, 70);
        scan("an ET below 0 grows", x, 1, 0, 1, MOST, 0, -20, 1, 100);
        x.set(5, LEAST);
        x.set(7, 101);
        scan("ET + D below 32 bits", x, 1, 0, 1, MOST, 1, MOST, 1, 100);
        x.set(5, 0);
        x.set(7, LEAST);
        scan("a D above 32 bits", x, 1, 0, 1, MOST, 1, MOST, 1, 100);
        x.set(6, -9);
        x.set(3, 5);
        x.set(5, 2);
        scan("an M that is not 0", x, 1, 1, 1, 5, 0, 3, 1, 101);
    }

    private static void inEnteredUnits() {
        ScanMachine x = new ScanMachine();
        x.begin(30);
        x.unit(8, -1);
        Op.addAll(x, Op.op(Op.BLOCK, 3, 2));
        x.unit(20, 0);
        Op.addAll(x, Op.op(Op.ENTER, 0, 0), Op.op(Op.ENTER, 0, 10));
        check.same("start()", x.start(), 0);
        x.set(12, 1);
        check.same("scan()", x.scan(0), 4);
        check.same("the first one's count", x.get(6), 0);
        check.same("the second one's count", x.get(16), 1);
        check.same("the second one's M", x.get(17), 1);
    }
}
