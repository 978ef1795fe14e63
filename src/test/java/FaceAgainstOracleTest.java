import java.util.Random;

/** Promises 1 to 9: random code with any other calls between, right and refused, against a second machine. */
public final class FaceAgainstOracleTest {
    private static final int RUNS = 3_000, MOST_CALLS = 512;
    private static final int[] EDGES = {0, 1, 2, 5, 6, 15, 16, 63, 64, 4095, 4096, 4097, -1, -2, 100_000_000, 100_000_001,
        Integer.MIN_VALUE, Integer.MAX_VALUE};
    private static final Check check = new Check("FaceAgainstOracleTest");

    private final Random random;
    private final String name;
    private final ScanMachine first = new ScanMachine();
    private final SecondMachine second = new SecondMachine();
    private int calls;
    private int total = 64;

    private FaceAgainstOracleTest(int run) {
        random = new Random(run);
        name = "run " + run;
    }

    public static void main(String[] args) throws InterruptedException {
        // The oracle recurses along a whole way.
        Thread thread = new Thread(null, FaceAgainstOracleTest::runAll, "oracle", 1L << 29);
        thread.start();
        thread.join();
        check.end();
    }

    private static void runAll() {
        for (int run = 0; run < RUNS; run++) {
            new FaceAgainstOracleTest(run).run();
        }
    }

    private void same(String call, int got, int due) {
        calls++;
        check.same(name + ", call " + calls + ", " + call, got, due);
    }

    private void run() {
        while (calls < MOST_CALLS - 120) {
            code();
            for (int k = random.nextInt(4); k > 0; k--) {
                start();
                for (int more = random.nextInt(25); more > 0 && calls < MOST_CALLS; more--) {
                    use();
                }
                if (calls < MOST_CALLS - 8 && random.nextInt(3) == 0) {
                    oneMore();
                }
            }
        }
    }

    /** A whole program, with a few calls of any kind between. */
    private void code() {
        Oracle wanted = new RandomCode(random).write();
        begin(wanted.total);
        for (Oracle.Unit unit : wanted.units) {
            unit(unit.frame, unit.place);
            for (int[] it : unit.code) {
                if (calls < MOST_CALLS - 40) {
                    add(it);
                    if (random.nextInt(40) == 0) {
                        use();
                    }
                }
            }
        }
    }

    private void oneMore() {
        switch (random.nextInt(4)) {
            case 0 -> add(new int[] {Op.LEAVE, 0, 0, 0});
            case 1 -> {
                add(new int[] {Op.PUSH, random.nextInt(), 0, 0});
                start();
                add(new int[] {Op.STORE, random.nextInt(4), 0, 0});
            }
            case 2 -> unit(random.nextInt(4), random.nextInt(3) == 0 ? EDGES[random.nextInt(EDGES.length)] : 0);
            default -> begin(EDGES[random.nextInt(EDGES.length)]);
        }
    }

    private void begin(int t) {
        int answer = second.begin(t);
        total = answer == -1 ? total : t;
        same("begin(" + t + ")", first.begin(t), answer);
    }

    private void unit(int frame, int place) {
        same("unit(" + frame + ", " + place + ")", first.unit(frame, place), second.unit(frame, place));
    }

    private void add(int[] it) {
        same("add(" + it[0] + ", ..)", first.add(it[0], it[1], it[2], it[3]), second.add(it[0], it[1], it[2], it[3]));
    }

    private void start() {
        same("start()", first.start(), second.start());
    }

    /** A call that leaves the code alone, or is refused. */
    private void use() {
        int edge = EDGES[random.nextInt(EDGES.length)];
        int cell = random.nextInt(5) == 0 ? edge : random.nextInt(total);
        switch (random.nextInt(8)) {
            case 0, 1 -> same("get(" + cell + ")", first.get(cell), second.get(cell));
            case 2, 3 -> {
                int v = random.nextBoolean() ? random.nextInt(3) - 1 : random.nextInt();
                same("set(" + cell + ", " + v + ")", first.set(cell, v), second.set(cell, v));
            }
            case 4, 5 -> {
                int ticks = random.nextInt(4) == 0 ? edge : random.nextInt(12);
                same("scan(" + ticks + ")", first.scan(ticks), second.scan(ticks));
            }
            case 6 -> {
                int which = random.nextInt(8) - 1;
                same("count(" + which + ")", first.count(which), second.count(which));
            }
            default -> {
                if (edge < 1 || edge > 4096) {
                    begin(edge);
                    unit(edge, edge);
                }
            }
        }
    }
}
