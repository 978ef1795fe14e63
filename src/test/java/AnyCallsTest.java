import java.util.Random;

/** Promises 1 to 9: no call throws, whatever its arguments and whatever came before. */
public final class AnyCallsTest {
    private static final int OBJECTS = 4_000, CALLS = 256;
    private static final int[] EDGES = {0, 0, 0, 1, 1, 2, 3, 4, 5, 6, 7, 8, 9, 10, 11, 12, 13, 14, 15, 16, 17, 18, 19, 24, 25,
        64, 65, 256, 4095, 4096, 4097, 20_000, 1_000_000, 100_000_000, -1, -2, Integer.MIN_VALUE, Integer.MAX_VALUE};

    public static void main(String[] args) {
        Check check = new Check("AnyCallsTest");
        for (int run = 0; run < OBJECTS; run++) {
            Random random = new Random(run);
            ScanMachine x = new ScanMachine();
            for (int k = 0; k < CALLS; k++) {
                String what = "run " + run + ", call " + k;
                try {
                    check.same(what, call(x, random), 0);
                } catch (RuntimeException thrown) {
                    check.same(what + ": " + thrown, 1, 0);
                }
            }
        }
        check.end();
    }

    private static int pick(Random random) {
        return random.nextInt(10) == 0 ? random.nextInt() : EDGES[random.nextInt(EDGES.length)];
    }

    private static int small(Random random) {
        return random.nextInt(8) == 0 ? pick(random) : random.nextInt(20);
    }

    /** 0, if the answer is one that such a call can have. */
    private static int call(ScanMachine x, Random random) {
        switch (random.nextInt(40)) {
            case 0:
                int t = pick(random);
                return x.begin(t) == (t >= 1 && t <= 4096 ? t : -1) ? 0 : 1;
            case 1, 2:
                int unit = x.unit(small(random), random.nextInt(3) == 0 ? pick(random) : 0);
                return unit >= -1 && unit < 16 ? 0 : 1;
            case 3, 4, 5, 6, 7, 8:
                int fault = x.start();
                return fault >= 0 && fault <= 13 && (fault == 0 || x.scan(0) == -1) ? 0 : 1;
            case 9, 10, 11:
                int steps = x.scan(small(random));
                return steps >= -3 && steps <= 20_000 && steps <= Math.max(0, x.count(3)) ? 0 : 1;
            case 12:
                x.set(small(random), pick(random));
                return 0;
            case 13:
                x.get(pick(random));
                return 0;
            case 14:
                x.count(pick(random));
                return 0;
            default:
                int at = x.add(small(random), small(random), small(random), small(random));
                return at >= -1 && at < 256 ? 0 : 1;
        }
    }
}
