/** The boundary sentences of TWO, ONE and CHOOSE: both widths, division, shifts, comparisons. */
public final class EdgesOfReckoningTest extends Edges {
    public static void main(String[] args) {
        check = new Check("EdgesOfReckoningTest");
        lowest16();
        narrow();
        wide();
        cutOff();
        byZero();
        bits();
        comparisons();
        shiftsUp16();
        shiftsDown16();
        shifts32();
        lesserAndGreater();
        takesYThenX();
        negated();
        flags();
        turned();
        withoutSign();
        chooses();
        check.end();
    }

    private static void twos(int[]... rows) {
        for (int[] row : rows) {
            ScanMachine x = started(load(0), load(1), two(row[0]), store(2));
            x.set(0, row[1]);
            x.set(1, row[2]);
            check.same("scan()", x.scan(0), 4);
            check.same("TWO " + row[0] + " of " + row[1] + ", " + row[2], x.get(2), row[3]);
        }
    }

    private static void ones(int[]... rows) {
        for (int[] row : rows) {
            ScanMachine x = started(load(0), one(row[0]), store(2));
            x.set(0, row[1]);
            check.same("scan()", x.scan(0), 3);
            check.same("ONE " + row[0] + " of " + row[1], x.get(2), row[2]);
        }
    }

    private static int[] row(int... numbers) {
        return numbers;
    }

    private static void lowest16() {
        check.about("W16(x) is the number of 16 bits, with sign, that the lowest 16 bits of x are");
        ones(row(6, 0, 0), row(6, 32767, 32767), row(6, 32768, -32768), row(6, 32769, -32767), row(6, 65535, -1),
                row(6, 65536, 0), row(6, 65537, 1), row(6, -1, -1), row(6, -32768, -32768), row(6, -32769, 32767),
                row(6, -65536, 0), row(6, -65537, -1), row(6, MOST, -1), row(6, LEAST, 0), row(6, LEAST + 32768, -32768));
    }

    private static void narrow() {
        check.about("0 to 4: W16 of x + y, x - y, x y, x / y, x mod y");
        twos(row(0, 32766, 1, 32767), row(0, 32767, 1, -32768), row(0, -32768, 0, -32768), row(0, -32768, -1, 32767),
                row(0, MOST, 1, 0), row(0, MOST, MOST, -2), row(0, LEAST, LEAST, 0), row(0, 65536, 65535, -1));
        twos(row(1, -32767, 1, -32768), row(1, -32768, 1, 32767), row(1, 32767, 0, 32767), row(1, 32767, -1, -32768),
                row(1, LEAST, 1, -1), row(1, 0, LEAST, 0));
        twos(row(2, 181, 181, 32761), row(2, 128, 256, -32768), row(2, 256, 256, 0), row(2, -256, 128, -32768),
                row(2, -1, -32768, -32768), row(2, 46341, 46341, 4633), row(2, MOST, MOST, 1), row(2, LEAST, LEAST, 0));
        // x and y themselves are not cut down
        twos(row(3, 65536, 2, -32768), row(3, 65534, 2, 32767), row(3, -32768, -1, -32768), row(3, 98304, 3, -32768),
                row(3, LEAST, -1, 0), row(3, MOST, LEAST, 0), row(3, LEAST, MOST, -1), row(3, 5, 65536, 0));
        twos(row(4, 65536, 65537, 0), row(4, 98304, 65536, -32768), row(4, -98304, 65536, -32768), row(4, 7, 65536, 7),
                row(4, LEAST, -1, 0), row(4, LEAST, MOST, -1), row(4, 70000, 65536, 4464));
    }

    private static void wide() {
        check.about("5 to 9: these in 32 bits");
        twos(row(5, 32767, 1, 32768), row(5, MOST, 0, MOST), row(5, MOST, 1, LEAST), row(5, LEAST, -1, MOST),
                row(5, LEAST, LEAST, 0), row(6, LEAST, 0, LEAST), row(6, LEAST, 1, MOST), row(6, MOST, -1, LEAST),
                row(6, 0, LEAST, LEAST), row(6, -1, LEAST, MOST));
        twos(row(7, 46340, 46340, 2147395600), row(7, 46341, 46341, -2147479015), row(7, 65536, 32768, LEAST),
                row(7, 65536, 65536, 0), row(7, LEAST, -1, LEAST), row(7, MOST, MOST, 1), row(7, LEAST, LEAST, 0));
        twos(row(8, 65536, 2, 32768), row(8, LEAST, -1, LEAST), row(8, LEAST, 1, LEAST), row(8, MOST, -1, -MOST),
                row(8, LEAST, MOST, -1), row(9, 98304, 65536, 32768), row(9, LEAST, -1, 0), row(9, LEAST, MOST, -1),
                row(9, MOST, LEAST, MOST), row(9, LEAST + 1, LEAST, LEAST + 1));
    }

    private static void cutOff() {
        check.about("quotients are cut off towards 0, what is left has the sign of x");
        for (int wide = 0; wide <= 5; wide += 5) {
            int quotient = 3 + wide;
            int rest = 4 + wide;
            twos(row(quotient, 7, 2, 3), row(quotient, -7, 2, -3), row(quotient, 7, -2, -3), row(quotient, -7, -2, 3),
                    row(quotient, 1, 2, 0), row(quotient, -1, 2, 0), row(quotient, 6, -2, -3), row(quotient, 0, -2, 0));
            twos(row(rest, 7, 2, 1), row(rest, -7, 2, -1), row(rest, 7, -2, 1), row(rest, -7, -2, -1), row(rest, 1, 2, 1),
                    row(rest, -1, 2, -1), row(rest, -6, 2, 0), row(rest, 0, -2, 0));
        }
    }

    private static void byZero() {
        check.about("the fault ZERO, if y is 0 in 3, 4, 8, 9");
        for (int a = 0; a <= 24; a++) {
            boolean fault = a == 3 || a == 4 || a == 8 || a == 9;
            for (int v : new int[] {0, 1, -1, MOST, LEAST}) {
                ScanMachine x = started(load(0), load(1), two(a), store(2));
                x.set(0, v);
                x.set(2, 1234);
                check.same("TWO " + a + " of " + v + ", 0", x.scan(0), fault ? ZERO : 4);
                check.same("its steps", x.count(0), fault ? 3 : 4);
                check.same("faults", x.count(2), fault ? 1 : 0);
                check.same("the cell stays", x.get(2) == 1234 ? 1 : 0, fault ? 1 : 0);
            }
            ScanMachine y = started(load(0), load(1), two(a), store(2));
            for (int v : new int[] {1, -1, 65536, LEAST}) {
                y.set(1, v);
                check.same("TWO " + a + " of 0, " + v, y.scan(0), 4);
            }
        }
    }

    private static void bits() {
        check.about("10 and, 11 or, 12 xor, bit by bit");
        twos(row(10, 12, 10, 8), row(10, -1, 70000, 70000), row(10, LEAST, MOST, 0), row(10, LEAST, -1, LEAST));
        twos(row(11, 12, 10, 14), row(11, 65536, 1, 65537), row(11, LEAST, MOST, -1), row(11, LEAST, 0, LEAST));
        twos(row(12, 12, 10, 6), row(12, -1, 65536, -65537), row(12, LEAST, MOST, -1), row(12, LEAST, LEAST, 0));
    }

    private static void comparisons() {
        check.about("13 to 18: 1 if x is =, not =, <, >, not >, not < y, else 0");
        int[][] pairs = {{4, 5}, {5, 5}, {6, 5}, {LEAST, MOST}, {MOST, LEAST}, {-1, 0}, {0, -1}, {65536, 0}, {LEAST, LEAST},
            {MOST, MOST}, {MOST, MOST - 1}, {LEAST, LEAST + 1}, {LEAST, 1}, {1, LEAST}};
        for (int[] pair : pairs) {
            int order = Integer.compare(pair[0], pair[1]);
            boolean[] due = {order == 0, order != 0, order < 0, order > 0, order <= 0, order >= 0};
            for (int k = 0; k < 6; k++) {
                twos(row(13 + k, pair[0], pair[1], due[k] ? 1 : 0));
            }
        }
    }

    private static void shiftsUp16() {
        check.about("19: W16(x 2^y) for y of 0 .. 15, else 0");
        twos(row(19, 5, 0, 5), row(19, 98305, 0, -32767), row(19, 1, 14, 16384), row(19, 1, 15, -32768), row(19, 3, 15, -32768),
                row(19, 2, 15, 0), row(19, -1, 15, -32768), row(19, 1, 16, 0), row(19, -1, 16, 0), row(19, 1, -1, 0),
                row(19, -1, -1, 0), row(19, 1, 31, 0), row(19, 1, 32, 0), row(19, 1, LEAST, 0), row(19, 1, MOST, 0),
                row(19, 1, 65536, 0), row(19, MOST, 1, -2), row(19, LEAST, 0, 0));
    }

    private static void shiftsDown16() {
        check.about("20: W16 of the lowest 16 bits of x, without sign, by 2^y, cut off, for y of 0 .. 15, else 0");
        twos(row(20, -1, 0, -1), row(20, -1, 1, 32767), row(20, 32768, 0, -32768), row(20, 32768, 1, 16384), row(20, -1, 15, 1),
                row(20, 32767, 15, 0), row(20, 32768, 15, 1), row(20, -1, 16, 0), row(20, -1, -1, 0), row(20, -1, 31, 0),
                row(20, -1, 32, 0), row(20, -1, LEAST, 0), row(20, -1, MOST, 0), row(20, 65536, 1, 0), row(20, 98304, 3, 4096),
                row(20, LEAST, 0, 0), row(20, 7, 1, 3), row(20, -7, 1, 32764));
    }

    private static void shifts32() {
        check.about("21, 22: these in 32 bits for y of 0 .. 31, else 0");
        twos(row(21, 5, 0, 5), row(21, 1, 15, 32768), row(21, 1, 16, 65536), row(21, 1, 30, 1 << 30), row(21, 1, 31, LEAST),
                row(21, 3, 31, LEAST), row(21, 2, 31, 0), row(21, 1, 32, 0), row(21, -1, 32, 0), row(21, 1, 33, 0),
                row(21, 1, -1, 0), row(21, -1, -1, 0), row(21, 1, LEAST, 0), row(21, 1, MOST, 0), row(21, 1, 64, 0));
        twos(row(22, -1, 0, -1), row(22, LEAST, 0, LEAST), row(22, -1, 1, MOST), row(22, LEAST, 1, 1 << 30), row(22, -1, 16, 65535),
                row(22, -1, 30, 3), row(22, -1, 31, 1), row(22, MOST, 31, 0), row(22, -1, 32, 0), row(22, -1, 33, 0),
                row(22, -1, -1, 0), row(22, -1, LEAST, 0), row(22, -1, MOST, 0), row(22, -1, 64, 0), row(22, 7, 1, 3));
    }

    private static void lesserAndGreater() {
        check.about("23 the lesser, 24 the greater one");
        int[][] pairs = {{4, 5}, {5, 4}, {5, 5}, {-1, 0}, {LEAST, MOST}, {MOST, LEAST}, {LEAST, LEAST + 1}, {65536, 1}};
        for (int[] pair : pairs) {
            boolean less = pair[0] < pair[1];
            twos(row(23, pair[0], pair[1], less ? pair[0] : pair[1]), row(24, pair[0], pair[1], less ? pair[1] : pair[0]));
        }
    }

    private static void takesYThenX() {
        check.about("7 takes y, then x");
        ScanMachine x = started(push(9), push(20), push(3), two(6), two(6), store(0));
        check.same("scan()", x.scan(0), 6);
        check.same("9 - (20 - 3)", x.get(0), -8);
    }

    private static void negated() {
        check.about("0 W16(-x), 1 -x");
        ones(row(0, 0, 0), row(0, 1, -1), row(0, 32767, -32767), row(0, 32768, -32768), row(0, -32768, -32768),
                row(0, -32767, 32767), row(0, -32769, -32767), row(0, 65536, 0), row(0, LEAST, 0), row(0, MOST, 1));
        ones(row(1, 0, 0), row(1, 1, -1), row(1, 32768, -32768), row(1, -32768, 32768), row(1, MOST, -MOST),
                row(1, LEAST, LEAST), row(1, LEAST + 1, MOST));
    }

    private static void flags() {
        check.about("2 1 if x is 0, else 0; 7 0 if x is 0, else 1");
        for (int v : new int[] {0, 1, -1, 65536, LEAST, MOST}) {
            ones(row(2, v, v == 0 ? 1 : 0), row(7, v, v == 0 ? 0 : 1));
        }
    }

    private static void turned() {
        check.about("3 all bits turned");
        ones(row(3, 0, -1), row(3, -1, 0), row(3, 5, -6), row(3, 65535, -65536), row(3, LEAST, MOST), row(3, MOST, LEAST));
    }

    private static void withoutSign() {
        check.about("4 W16 of x without its sign, 5 that in 32 bits (the least number stays)");
        ones(row(4, 0, 0), row(4, -1, 1), row(4, 1, 1), row(4, -32767, 32767), row(4, -32768, -32768), row(4, 32768, -32768),
                row(4, -32769, -32767), row(4, 65535, -1), row(4, -65535, -1), row(4, LEAST, 0), row(4, MOST, -1));
        ones(row(5, 0, 0), row(5, -1, 1), row(5, 1, 1), row(5, -32768, 32768), row(5, LEAST, LEAST), row(5, LEAST + 1, MOST),
                row(5, MOST, MOST));
    }

    private static void chooses() {
        check.about("9 takes y, x, g, and leaves y, if g is not 0, else x.");
        ScanMachine x = started(load(0), push(11), push(22), choose(), store(1));
        for (int g : new int[] {0, 1, -1, 65536, LEAST, MOST}) {
            x.set(0, g);
            check.same("scan()", x.scan(0), 5);
            check.same("CHOOSE by " + g, x.get(1), g == 0 ? 11 : 22);
        }
    }
}
