/** Promise 6: what TWO and ONE leave. */
public final class ArithmeticTest {
    private static final int LEAST = Integer.MIN_VALUE, MOST = Integer.MAX_VALUE;
    private static final Check check = new Check("ArithmeticTest");

    public static void main(String[] args) {
        written();
        byZero();
        againstOracle();
        check.end();
    }

    private static ScanMachine two(int a) {
        ScanMachine x = Op.program(3, Op.op(Op.LOAD, 0), Op.op(Op.LOAD, 1), Op.op(Op.TWO, a), Op.op(Op.STORE, 2));
        check.same("start() of TWO " + a, x.start(), 0);
        return x;
    }

    private static ScanMachine one(int a) {
        ScanMachine x = Op.program(3, Op.op(Op.LOAD, 0), Op.op(Op.ONE, a), Op.op(Op.STORE, 2));
        check.same("start() of ONE " + a, x.start(), 0);
        return x;
    }

    /** Rows of a, x, y and what is left. */
    private static void written() {
        int[][] rows = {
            {0, 32767, 1, -32768}, {0, -32768, -1, 32767}, {0, 65536, 5, 5}, {0, MOST, 1, 0}, {0, 20, 3, 23},
            {1, -32768, 1, 32767}, {1, 3, 5, -2}, {1, LEAST, 1, -1},
            {2, 256, 256, 0}, {2, 181, 182, -32594}, {2, -3, 7, -21}, {2, MOST, MOST, 1},
            {3, 7, 2, 3}, {3, -7, 2, -3}, {3, 7, -2, -3}, {3, -32768, -1, -32768}, {3, LEAST, -1, 0}, {3, 100000, 2, -15536},
            {4, 7, 3, 1}, {4, -7, 3, -1}, {4, 7, -3, 1}, {4, -7, -3, -1}, {4, 100000, 65537, 34463 - 65536},
            {5, MOST, 1, LEAST}, {5, 40000, 40000, 80000}, {6, LEAST, 1, MOST}, {6, 5, 8, -3},
            {7, 65536, 65536, 0}, {7, 46341, 46341, -2147479015}, {7, -4, 6, -24},
            {8, 7, 2, 3}, {8, -7, 2, -3}, {8, LEAST, -1, LEAST}, {8, LEAST, 2, -1073741824},
            {9, -7, 2, -1}, {9, 7, -2, 1}, {9, LEAST, -1, 0}, {9, 100000, 65537, 34463},
            {10, 12, 10, 8}, {10, -1, LEAST, LEAST}, {11, 12, 10, 14}, {11, LEAST, 1, LEAST + 1}, {12, 12, 10, 6}, {12, -1, 5, -6},
            {13, 4, 4, 1}, {13, 4, 5, 0}, {13, 65536, 0, 0}, {14, 4, 4, 0}, {14, 4, 5, 1},
            {15, 4, 5, 1}, {15, 5, 5, 0}, {15, 6, 5, 0}, {15, LEAST, MOST, 1}, {16, 4, 5, 0}, {16, 5, 5, 0}, {16, 6, 5, 1},
            {17, 4, 5, 1}, {17, 5, 5, 1}, {17, 6, 5, 0}, {18, 4, 5, 0}, {18, 5, 5, 1}, {18, 6, 5, 1}, {18, MOST, LEAST, 1},
            {19, 1, 15, -32768}, {19, 1, 16, 0}, {19, 3, 0, 3}, {19, 98305, 0, -32767}, {19, 1, -1, 0}, {19, 3, 14, -16384},
            {20, -1, 0, -1}, {20, -1, 1, 32767}, {20, -1, 15, 1}, {20, -1, 16, 0}, {20, -1, -1, 0}, {20, 0x18000, 3, 4096},
            {21, 1, 31, LEAST}, {21, 1, 32, 0}, {21, 3, 31, LEAST}, {21, 5, 0, 5}, {21, 5, -1, 0}, {21, 5, LEAST, 0},
            {22, -1, 0, -1}, {22, -1, 1, MOST}, {22, -1, 31, 1}, {22, -1, 32, 0}, {22, -1, -1, 0}, {22, 40, 3, 5},
            {23, 4, -5, -5}, {23, -5, 4, -5}, {24, 4, -5, 4}, {24, -5, 4, 4}, {23, LEAST, MOST, LEAST}, {24, LEAST, MOST, MOST}};
        for (int[] row : rows) {
            ScanMachine x = two(row[0]);
            x.set(0, row[1]);
            x.set(1, row[2]);
            check.same("scan()", x.scan(0), 4);
            check.same("TWO " + row[0] + " of " + row[1] + ", " + row[2], x.get(2), row[3]);
        }
        int[][] singles = {
            {0, 5, -5}, {0, -32768, -32768}, {0, 65537, -1}, {1, 5, -5}, {1, LEAST, LEAST}, {1, 65537, -65537},
            {2, 0, 1}, {2, 7, 0}, {2, -7, 0}, {3, 0, -1}, {3, 5, -6}, {3, LEAST, MOST},
            {4, -5, 5}, {4, 5, 5}, {4, -32768, -32768}, {4, 65535, -1}, {4, LEAST, 0}, {5, -5, 5}, {5, 70000, 70000},
            {5, -70000, 70000}, {5, LEAST, LEAST}, {6, 32768, -32768}, {6, -32769, 32767}, {6, 12, 12}, {6, 65536, 0},
            {7, 0, 0}, {7, 9, 1}, {7, -9, 1}};
        for (int[] row : singles) {
            ScanMachine x = one(row[0]);
            x.set(0, row[1]);
            check.same("scan()", x.scan(0), 3);
            check.same("ONE " + row[0] + " of " + row[1], x.get(2), row[2]);
        }
    }

    private static void byZero() {
        for (int a = 0; a <= 24; a++) {
            ScanMachine x = two(a);
            x.set(0, 9);
            x.set(2, 77);
            boolean fault = a == 3 || a == 4 || a == 8 || a == 9;
            check.same("TWO " + a + " by 0", x.scan(0), fault ? -2 : 4);
            check.same("count(0) of TWO " + a + " by 0", x.count(0), fault ? 3 : 4);
            check.same("count(2) of TWO " + a + " by 0", x.count(2), fault ? 1 : 0);
            check.same("what TWO " + a + " leaves by 0", x.get(2), fault ? 77 : Oracle.two(a, 9, 0));
        }
        ScanMachine x = two(8);
        check.same("0 / 0", x.scan(0), -2);
    }

    private static void againstOracle() {
        int[] edges = {0, 1, -1, 2, -3, 14, 15, 16, 17, 30, 31, 32, 33, 32767, 32768, -32768, -32769, 65535, 65536, -65536,
            98304, 46341, 1 << 30, MOST - 1, MOST, LEAST, LEAST + 1};
        for (int a = 0; a <= 24; a++) {
            for (int p : edges) {
                ScanMachine x = two(a);
                for (int q : edges) {
                    if (q != 0) {
                        x.set(0, p);
                        x.set(1, q);
                        x.scan(1);
                        check.same("TWO " + a + " of " + p + ", " + q, x.get(2), Oracle.two(a, p, q));
                    }
                }
            }
        }
        for (int a = 0; a <= 7; a++) {
            for (int p : edges) {
                ScanMachine x = one(a);
                x.set(0, p);
                x.scan(1);
                check.same("ONE " + a + " of " + p, x.get(2), Oracle.one(a, p));
            }
        }
    }
}
