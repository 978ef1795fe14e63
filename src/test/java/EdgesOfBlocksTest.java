/** The boundary sentences of the blocks: each row is one scan, from cells that were set to the cells behind it. */
public final class EdgesOfBlocksTest extends Edges {
    /** The cells of a block begin here, among cells that it must leave alone. */
    private static final int AT = 5;

    public static void main(String[] args) {
        check = new Check("EdgesOfBlocksTest");
        sumOfTicks();
        inputs();
        lastTime();
        noLessThan0();
        grown();
        grownWithoutABound();
        onDelayOff();
        onDelay();
        offDelayOn();
        offDelayBegins();
        offDelay();
        pulseRuns();
        pulseBegins();
        upReset();
        up();
        upQ();
        downLoad();
        down();
        downQ();
        rise();
        fall();
        setFirst();
        resetFirst();
        anyM();
        check.end();
    }

    /** One scan at so many ticks, and what all 16 cells are behind it. */
    private static void scanned(int kind, int now, int[] before, int[] due) {
        ScanMachine x = started(block(kind, AT));
        for (int cell = 0; cell < 16; cell++) {
            boolean own = cell >= AT && cell < AT + before.length;
            x.set(cell, own ? before[cell - AT] : 1000 + cell);
        }
        String what = "BLOCK " + kind + " at " + now + " from " + named(before);
        check.same(what, x.scan(now), 1);
        for (int cell = 0; cell < 16; cell++) {
            boolean own = cell >= AT && cell < AT + due.length;
            check.same(what + ", cell " + (cell - AT), x.get(cell), own ? due[cell - AT] : 1000 + cell);
        }
    }

    /** A timer from {IN, PT, Q, ET, M, L} at NOW to Q and ET. */
    private static void timer(int kind, int[] before, int now, int q, int et) {
        scanned(kind, now, before, new int[] {before[0], before[1], q, et, before[0] != 0 ? 1 : 0, now});
    }

    /** A counter from {CU or CD, R or LD, PV, Q, CV, M} to Q and CV. */
    private static void counter(int kind, int[] before, int q, int cv) {
        scanned(kind, 3, before, new int[] {before[0], before[1], before[2], q, cv, before[0] != 0 ? 1 : 0});
    }

    private static int[] of(int... numbers) {
        return numbers;
    }

    private static void sumOfTicks() {
        check.about("NOW is the sum of all ticks.");
        ScanMachine x = started(block(0, 0), block(0, 6));
        int sum = 0;
        for (int ticks : new int[] {0, 1, 0, 100_000_000, 99_999_999, 7}) {
            sum += ticks;
            check.same("scan(" + ticks + ")", x.scan(ticks), 2);
            check.same("L of the first block", x.get(5), sum);
            check.same("L of the second block", x.get(11), sum);
            check.same("count(4)", x.count(4), sum);
        }
    }

    private static void inputs() {
        check.about("An input (the first one, of kinds 3, 4, 7, 8 the first two) that is not 0 counts as 1.");
        for (int v : new int[] {1, 2, -1, 65536, LEAST, MOST}) {
            timer(0, of(v, 10, 0, 3, 1, 0), 7, 1, 10);
            timer(1, of(v, 10, 0, 3, 1, 0), 7, 1, 0);
            timer(2, of(v, 10, 0, 3, 0, 0), 7, 1, 0);
            counter(3, of(v, 0, 9, 0, 4, 0), 0, 5);
            counter(3, of(0, v, 9, 0, 4, 0), 0, 0);
            counter(4, of(v, 0, 9, 0, 4, 0), 0, 3);
            counter(4, of(0, v, 9, 0, 4, 0), 0, 9);
            scanned(5, 3, of(v, 0, 0), of(v, 1, 1));
            scanned(6, 3, of(v, 1, 1), of(v, 0, 1));
            scanned(7, 3, of(v, 0, 0), of(v, 0, 1));
            scanned(7, 3, of(0, v, 1), of(0, v, 0));
            scanned(8, 3, of(v, 0, 0), of(v, 0, 1));
            scanned(8, 3, of(v, v, 1), of(v, v, 0));
        }
    }

    private static void lastTime() {
        check.about("M is what the first input was at the last time, L what NOW was (both 0 at first, as all cells); behind all else they become that of now.");
        ScanMachine x = started(block(0, 0), block(3, 6), block(5, 12));
        int[] ins = {1, 1, 0, -4, 0, 0, 9};
        int now = 0;
        int was = 0;
        for (int in : ins) {
            x.set(0, in);
            x.set(6, in);
            x.set(12, in);
            int cv = x.get(10);
            check.same("scan()", x.scan(3), 3);
            now += 3;
            int m = in != 0 ? 1 : 0;
            check.same("M of a timer", x.get(4), m);
            check.same("L of a timer", x.get(5), now);
            check.same("M of a counter", x.get(11), m);
            check.same("CV by the M before", x.get(10), cv + (m == 1 && was == 0 ? 1 : 0));
            check.same("Q by the M before", x.get(13), m == 1 && was == 0 ? 1 : 0);
            check.same("M of an edge", x.get(14), m);
            was = m;
        }
        // the first scan of all is at ticks from 0 on
        timer(1, of(0, 10, 1, 0, 0, 0), 4, 1, 4);
    }

    private static void noLessThan0() {
        check.about("P is PT, or 0, if that is less");
        timer(0, of(1, 1, 0, 0, 0, 0), 5, 0, 0);
        timer(0, of(1, 0, 0, 0, 0, 0), 5, 1, 0);
        timer(0, of(1, -1, 0, 0, 0, 0), 5, 1, 0);
        timer(0, of(1, LEAST, 0, 0, 0, 0), 5, 1, 0);
        timer(0, of(1, MOST, 0, 0, 0, 0), 5, 0, 0);
        timer(0, of(1, -1, 0, 0, 1, 0), 5, 1, 0);
        timer(0, of(1, LEAST, 0, 0, 1, 0), 5, 1, 0);
        // an ET below 0 is below P, though PT is less still
        timer(0, of(1, -9, 0, -6, 1, 0), 5, 0, -1);
    }

    private static void grown() {
        check.about("D is NOW - L; GROWN is the lesser of P and ET + D");
        timer(0, of(1, 10, 0, 3, 1, 20), 26, 0, 9);
        timer(0, of(1, 10, 0, 3, 1, 20), 27, 1, 10);
        timer(0, of(1, 10, 0, 3, 1, 20), 28, 1, 10);
        timer(0, of(1, 10, 0, 3, 1, 20), 20, 0, 3);
        timer(0, of(1, 10, 0, 3, 1, 20), 19, 0, 2);
        timer(0, of(1, 10, 1, 10, 1, 20), 20, 1, 10);
        timer(0, of(1, 10, 1, 11, 1, 20), 20, 1, 10);
        timer(0, of(1, MOST, 0, 0, 1, 0), 100_000_000, 0, 100_000_000);
    }

    private static void grownWithoutABound() {
        check.about("(reckoned without a bound, then the number of 32 bits, with sign, that its lowest 32 bits are)");
        timer(0, of(1, MOST, 0, MOST - 5, 1, 0), 4, 0, MOST - 1);
        timer(0, of(1, MOST, 0, MOST - 5, 1, 0), 5, 1, MOST);
        timer(0, of(1, MOST, 0, MOST - 5, 1, 0), 6, 1, MOST);
        timer(0, of(1, 10, 0, MOST, 1, 0), 100_000_000, 1, 10);
        timer(0, of(1, MOST, 0, LEAST, 1, 7), 7, 0, LEAST);
        // the lesser one is below all numbers of 32 bits, and becomes one far above 0
        timer(0, of(1, MOST, 0, LEAST, 1, 8), 7, 1, MOST);
        timer(0, of(1, 10, 0, LEAST, 1, 8), 7, 1, MOST);
        timer(1, of(0, 10, 1, LEAST, 0, 8), 7, 0, MOST);
        timer(2, of(1, 10, 1, LEAST, 1, 8), 7, 0, MOST);
        timer(0, of(1, MOST, 0, LEAST, 1, MOST), 0, 0, 1);
        timer(0, of(1, 1, 0, LEAST, 1, MOST), 0, 1, 1);
        timer(0, of(1, 2, 0, LEAST, 1, MOST), 0, 0, 1);
        timer(0, of(1, MOST, 0, 0, 1, LEAST + 1), 0, 1, MOST);
        timer(0, of(1, MOST, 0, 0, 1, LEAST), 0, 1, MOST);
        timer(0, of(1, MOST, 0, -2, 1, LEAST), 1, 1, MOST);
        timer(0, of(1, MOST, 0, -3, 1, LEAST), 1, 0, MOST - 1);
    }

    private static void onDelayOff() {
        check.about("0 (IN, PT, Q, ET, M, L): IN 0: Q 0, ET 0.");
        timer(0, of(0, 10, 1, 10, 1, 2), 5, 0, 0);
        timer(0, of(0, 10, 0, 4, 1, 2), 5, 0, 0);
        timer(0, of(0, 0, 1, 4, 0, 2), 5, 0, 0);
        timer(0, of(0, -1, 7, -4, 0, 2), 5, 0, 0);
    }

    private static void onDelay() {
        check.about("IN 1: ET is 0, if M is 0, else GROWN; Q 1 if ET is not less than P, else 0.");
        timer(0, of(1, 10, 0, 6, 0, 2), 5, 0, 0);
        timer(0, of(1, 10, 1, 10, 0, 2), 50, 0, 0);
        timer(0, of(1, 10, 0, 6, 1, 2), 5, 0, 9);
        timer(0, of(1, 10, 0, 6, 1, 2), 6, 1, 10);
        timer(0, of(1, 10, 9, 6, 1, 2), 5, 0, 9);
        timer(0, of(1, 1, 0, 0, 0, 2), 5, 0, 0);
        timer(0, of(1, 0, 0, 0, 0, 2), 5, 1, 0);
    }

    private static void offDelayOn() {
        check.about("1 (the same cells): IN 1: Q 1, ET 0.");
        timer(1, of(1, 10, 0, 6, 0, 2), 5, 1, 0);
        timer(1, of(1, 10, 0, 6, 1, 2), 50, 1, 0);
        timer(1, of(1, 0, 0, 6, 1, 2), 5, 1, 0);
        timer(1, of(1, -1, 5, -6, 0, 2), 5, 1, 0);
    }

    private static void offDelayBegins() {
        check.about("IN 0: if M is 1: ET 0, Q 1 if P is above 0, else 0");
        timer(1, of(0, 1, 1, 6, 1, 2), 5, 1, 0);
        timer(1, of(0, 0, 1, 6, 1, 2), 5, 0, 0);
        timer(1, of(0, -1, 1, 6, 1, 2), 5, 0, 0);
        timer(1, of(0, 1, 0, 6, 1, 2), 500, 1, 0);
        timer(1, of(0, LEAST, 9, 6, 1, 2), 5, 0, 0);
    }

    private static void offDelay() {
        check.about("otherwise, if Q is not 0: ET GROWN, Q 1 if ET is less than P, else 0.");
        timer(1, of(0, 10, 1, 6, 0, 2), 5, 1, 9);
        timer(1, of(0, 10, 1, 6, 0, 2), 6, 0, 10);
        timer(1, of(0, 10, 1, 6, 0, 2), 7, 0, 10);
        timer(1, of(0, 10, -3, 6, 0, 2), 5, 1, 9);
        timer(1, of(0, 0, 1, 0, 0, 2), 2, 0, 0);
        // Q 0: nothing but M and L changes
        timer(1, of(0, 10, 0, 6, 0, 2), 5, 0, 6);
        timer(1, of(0, 10, 0, 60, 0, 2), 5, 0, 60);
        timer(1, of(0, 10, 0, -6, 0, 2), 50, 0, -6);
    }

    private static void pulseRuns() {
        check.about("2 (the same): if Q is not 0: ET GROWN, and Q 0, if ET is not less than P.");
        timer(2, of(1, 10, 1, 6, 1, 2), 5, 1, 9);
        timer(2, of(1, 10, 1, 6, 0, 2), 5, 1, 9);
        timer(2, of(0, 10, 1, 6, 0, 2), 5, 1, 9);
        timer(2, of(0, 10, 1, 6, 1, 2), 5, 1, 9);
        timer(2, of(1, 10, 1, 6, 1, 2), 6, 0, 10);
        timer(2, of(1, 10, 1, 6, 1, 2), 7, 0, 10);
        timer(2, of(1, 10, 7, 6, 1, 2), 5, 7, 9);
        timer(2, of(1, 0, 1, 6, 1, 2), 5, 0, 0);
        timer(2, of(1, -1, 1, 6, 1, 2), 5, 0, 0);
    }

    private static void pulseBegins() {
        check.about("Then, if Q is 0: with IN 1 and M 0 ET 0, Q 1 if P is above 0; with IN 0 ET 0.");
        timer(2, of(1, 10, 0, 6, 0, 2), 5, 1, 0);
        timer(2, of(1, 1, 0, 6, 0, 2), 5, 1, 0);
        timer(2, of(1, 0, 0, 6, 0, 2), 5, 0, 0);
        timer(2, of(1, -1, 0, 6, 0, 2), 5, 0, 0);
        timer(2, of(1, 10, 0, 6, 1, 2), 5, 0, 6);
        timer(2, of(0, 10, 0, 6, 0, 2), 5, 0, 0);
        timer(2, of(0, 10, 0, 6, 1, 2), 5, 0, 0);
        // it ended in this scan, and begins anew or not
        timer(2, of(1, 10, 1, 6, 0, 2), 6, 1, 0);
        timer(2, of(1, 0, 1, 6, 0, 2), 6, 0, 0);
        timer(2, of(0, 10, 1, 6, 1, 2), 6, 0, 0);
        timer(2, of(1, 10, 1, 6, 1, 2), 6, 0, 10);
    }

    private static void upReset() {
        check.about("3 (CU, R, PV, Q, CV, M): R 1: CV 0");
        counter(3, of(0, 1, 5, 1, 7, 0), 0, 0);
        counter(3, of(1, 1, 5, 1, 7, 0), 0, 0);
        counter(3, of(1, 1, 1, 1, 7, 0), 0, 0);
        counter(3, of(1, 1, 0, 0, LEAST, 0), 1, 0);
        counter(3, of(0, -3, -1, 0, MOST, 1), 1, 0);
    }

    private static void up() {
        check.about("else, if CU is 1, M 0 and CV below 32,767, CV is one more");
        counter(3, of(1, 0, 5, 0, 0, 0), 0, 1);
        counter(3, of(1, 0, 5, 0, 0, 1), 0, 0);
        counter(3, of(0, 0, 5, 0, 0, 0), 0, 0);
        counter(3, of(0, 0, 5, 0, 0, 1), 0, 0);
        counter(3, of(1, 0, 5, 0, 32_765, 0), 1, 32_766);
        counter(3, of(1, 0, 5, 0, 32_766, 0), 1, 32_767);
        counter(3, of(1, 0, 5, 0, 32_767, 0), 1, 32_767);
        counter(3, of(1, 0, 5, 0, 32_768, 0), 1, 32_768);
        counter(3, of(1, 0, 5, 0, MOST, 0), 1, MOST);
        counter(3, of(1, 0, 5, 0, -1, 0), 0, 0);
        counter(3, of(1, 0, 5, 0, LEAST, 0), 0, LEAST + 1);
    }

    private static void upQ() {
        check.about("Q 1 if CV is not less than PV, else 0.");
        counter(3, of(1, 0, 5, 0, 3, 0), 0, 4);
        counter(3, of(1, 0, 5, 0, 4, 0), 1, 5);
        counter(3, of(1, 0, 5, 0, 5, 0), 1, 6);
        counter(3, of(0, 0, 5, 1, 4, 0), 0, 4);
        counter(3, of(0, 0, 5, 0, 5, 0), 1, 5);
        counter(3, of(0, 0, 0, 0, 0, 0), 1, 0);
        counter(3, of(0, 0, 1, 0, 0, 0), 0, 0);
        counter(3, of(0, 0, LEAST, 0, LEAST, 0), 1, LEAST);
        counter(3, of(0, 0, LEAST, 0, MOST, 0), 1, MOST);
        counter(3, of(0, 0, MOST, 1, LEAST, 0), 0, LEAST);
        counter(3, of(0, 0, MOST, 1, MOST, 0), 1, MOST);
    }

    private static void downLoad() {
        check.about("4 (CD, LD, PV, Q, CV, M): LD 1: CV is PV");
        counter(4, of(0, 1, 5, 1, 7, 0), 0, 5);
        counter(4, of(1, 1, 5, 1, 7, 0), 0, 5);
        counter(4, of(1, 1, 0, 0, 7, 0), 1, 0);
        counter(4, of(1, 1, 1, 0, 7, 0), 0, 1);
        counter(4, of(0, -1, 40_000, 0, 7, 0), 0, 40_000);
        counter(4, of(0, 1, LEAST, 0, 7, 1), 1, LEAST);
    }

    private static void down() {
        check.about("else, if CD is 1, M 0 and CV above -32,768, CV is one less");
        counter(4, of(1, 0, 5, 0, 7, 0), 0, 6);
        counter(4, of(1, 0, 5, 0, 7, 1), 0, 7);
        counter(4, of(0, 0, 5, 0, 7, 0), 0, 7);
        counter(4, of(0, 0, 5, 0, 7, 1), 0, 7);
        counter(4, of(1, 0, 5, 0, -32_766, 0), 1, -32_767);
        counter(4, of(1, 0, 5, 0, -32_767, 0), 1, -32_768);
        counter(4, of(1, 0, 5, 0, -32_768, 0), 1, -32_768);
        counter(4, of(1, 0, 5, 0, -32_769, 0), 1, -32_769);
        counter(4, of(1, 0, 5, 0, LEAST, 0), 1, LEAST);
        counter(4, of(1, 0, 5, 0, MOST, 0), 0, MOST - 1);
    }

    private static void downQ() {
        check.about("Q 1 if CV is not above 0, else 0.");
        counter(4, of(1, 0, 5, 0, 2, 0), 0, 1);
        counter(4, of(1, 0, 5, 0, 1, 0), 1, 0);
        counter(4, of(1, 0, 5, 0, 0, 0), 1, -1);
        counter(4, of(0, 0, 5, 1, 1, 0), 0, 1);
        counter(4, of(0, 0, 5, 0, 0, 0), 1, 0);
        counter(4, of(0, 0, 5, 0, LEAST, 0), 1, LEAST);
        counter(4, of(0, 0, 5, 1, MOST, 0), 0, MOST);
    }

    private static void rise() {
        check.about("5 (CLK, Q, M): Q 1 if CLK is 1 and M 0, else 0.");
        for (int q : new int[] {0, 1, 9}) {
            scanned(5, 3, of(1, q, 0), of(1, 1, 1));
            scanned(5, 3, of(1, q, 1), of(1, 0, 1));
            scanned(5, 3, of(0, q, 1), of(0, 0, 0));
            scanned(5, 3, of(0, q, 0), of(0, 0, 0));
        }
    }

    private static void fall() {
        check.about("6 (the same): Q 1 if CLK is 0 and M 1, else 0.");
        for (int q : new int[] {0, 1, 9}) {
            scanned(6, 3, of(0, q, 1), of(0, 1, 0));
            scanned(6, 3, of(0, q, 0), of(0, 0, 0));
            scanned(6, 3, of(1, q, 1), of(1, 0, 1));
            scanned(6, 3, of(1, q, 0), of(1, 0, 1));
        }
    }

    private static void setFirst() {
        check.about("7 (S, R, Q): Q 1 if S is 1, or R is 0 and Q not 0; else 0.");
        int[] due = {0, 1, 0, 0, 1, 1, 1, 1};
        latch(7, due);
    }

    private static void resetFirst() {
        check.about("8 (S, R, Q): Q 1 if R is 0, and S is 1 or Q not 0; else 0.");
        int[] due = {0, 1, 0, 0, 1, 1, 0, 0};
        latch(8, due);
    }

    /** What Q becomes for S, R, Q as the bits of 0 .. 7, with any number for a bit that is 1. */
    private static void latch(int kind, int[] due) {
        for (int v : new int[] {1, -1, LEAST}) {
            for (int k = 0; k < 8; k++) {
                int s = (k & 4) != 0 ? v : 0;
                int r = (k & 2) != 0 ? v : 0;
                scanned(kind, 3, of(s, r, (k & 1) != 0 ? v : 0), of(s, r, due[k]));
            }
        }
    }

    private static void anyM() {
        check.about("M is taken for 1, if it is not 0.");
        for (int m : new int[] {1, 2, -1, 65536, LEAST, MOST}) {
            timer(0, of(1, 10, 0, 6, m, 2), 5, 0, 9);
            timer(1, of(0, 10, 0, 6, m, 2), 5, 1, 0);
            timer(2, of(1, 10, 0, 6, m, 2), 5, 0, 6);
            counter(3, of(1, 0, 5, 0, 3, m), 0, 3);
            counter(4, of(1, 0, 5, 0, 3, m), 0, 3);
            scanned(5, 3, of(1, 0, m), of(1, 0, 1));
            scanned(6, 3, of(0, 0, m), of(0, 1, 0));
        }
    }
}
