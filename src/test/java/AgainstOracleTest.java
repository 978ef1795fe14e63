import java.util.Random;

/** Promises 5 to 9 on random code, against a second reading of the document. */
public final class AgainstOracleTest {
    private static final int RUNS = 20_000;
    private static final Check check = new Check("AgainstOracleTest");

    public static void main(String[] args) throws InterruptedException {
        int[] answers = new int[14];
        // The oracle recurses along a whole way.
        Thread thread = new Thread(null, () -> runAll(answers), "oracle", 1L << 29);
        thread.start();
        thread.join();
        for (int fault = 0; fault <= 10; fault++) {
            check.same("a run whose start() is " + fault, answers[fault] > 0 ? 1 : 0, 1);
        }
        check.end();
    }

    private static void runAll(int[] answers) {
        for (int run = 0; run < RUNS; run++) {
            Random random = new Random(run);
            RandomCode writer = new RandomCode(random);
            Oracle oracle = writer.write();
            if (size(oracle) <= 256) {
                answers[runOne(run, random, writer, oracle)]++;
            }
        }
    }

    private static int size(Oracle oracle) {
        int size = 0;
        for (Oracle.Unit unit : oracle.units) {
            size += unit.code.size();
        }
        return size;
    }

    private static int runOne(int run, Random random, RandomCode writer, Oracle oracle) {
        String name = "run " + run + ": ";
        ScanMachine machine = new ScanMachine();
        machine.begin(oracle.total);
        for (Oracle.Unit unit : oracle.units) {
            machine.unit(unit.frame, unit.place);
            for (int[] it : unit.code) {
                machine.add(it[0], it[1], it[2], it[3]);
            }
        }
        int fault = oracle.start();
        check.same(name + "start()", machine.start(), fault);
        if (fault != 0) {
            check.same(name + "scan(0)", machine.scan(0), ScanMachine.BAD);
            return fault;
        }
        check.same(name + "count(3)", machine.count(3), oracle.steps.get(oracle.units.size() - 1));
        for (int scan = 0; scan < 3; scan++) {
            for (int k = random.nextInt(12); k > 0; k--) {
                int cell = random.nextInt(oracle.total);
                int v = writer.edge();
                check.same(name + "set()", machine.set(cell, v), oracle.cells[cell]);
                oracle.cells[cell] = v;
            }
            int ticks = random.nextInt(20);
            check.same(name + "scan()", machine.scan(ticks), oracle.scan(ticks));
            check.same(name + "count(0)", machine.count(0), oracle.ran);
            check.same(name + "count(5)", machine.count(5), oracle.deepest);
            check.same(name + "within count(3)", machine.count(0) <= machine.count(3) ? 1 : 0, 1);
            for (int cell = 0; cell < oracle.total; cell++) {
                check.same(name + "get(" + cell + ")", machine.get(cell), oracle.cells[cell]);
            }
        }
        check.same(name + "count(4)", machine.count(4), oracle.now);
        return fault;
    }
}
