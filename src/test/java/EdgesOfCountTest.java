/** The boundary sentences of promise 9. */
public final class EdgesOfCountTest extends Edges {
    public static void main(String[] args) {
        check = new Check("EdgesOfCountTest");
        stepsOfTheLast();
        howMany();
        howManyFaults();
        mayTake();
        now();
        greatestDepth();
        depthThroughUnits();
        anotherNumber();
        check.end();
    }

    /** Two steps if cell 0 is 0, else 12 / cell 1 in six. */
    private static ScanMachine dividing() {
        return started(load(0), unless(6), push(12), load(1), two(8), store(2));
    }

    private static void stepsOfTheLast() {
        check.about("0 the steps of the last scan (0 without)");
        ScanMachine x = dividing();
        check.same("without", x.count(0), 0);
        x.scan(0);
        check.same("a short one", x.count(0), 2);
        x.set(0, 1);
        x.scan(0);
        check.same("one with a fault", x.count(0), 5);
        x.scan(-1);
        check.same("behind a BAD one", x.count(0), 5);
        x.set(1, 1);
        x.scan(0);
        check.same("a long one", x.count(0), 6);
        x.set(0, 0);
        x.scan(0);
        check.same("a short one again", x.count(0), 2);
        x.start();
        check.same("without again", x.count(0), 0);
        ScanMachine none = started();
        none.scan(0);
        check.same("one without a step", none.count(0), 0);
    }

    private static void howMany() {
        check.about("1 how many scans there were since start()");
        ScanMachine x = dividing();
        check.same("none", x.count(1), 0);
        for (int k = 1; k <= 100; k++) {
            x.set(0, k % 3);
            x.scan(1);
            check.same("so many", x.count(1), k);
        }
        x.scan(-1);
        x.scan(100_000_001);
        check.same("BAD ones do not count", x.count(1), 100);
        x.start();
        check.same("none behind start()", x.count(1), 0);
    }

    private static void howManyFaults() {
        check.about("2 how many of them ended with a fault");
        ScanMachine x = started(load(0), unless(6), push(12), load(1), two(8), store(2), load(3), take(8, 0, 2), store(2));
        check.same("none", x.count(2), 0);
        x.scan(0);
        check.same("one without", x.count(2), 0);
        x.set(3, 2);
        x.scan(0);
        check.same("INDEX", x.count(2), 1);
        x.set(0, 1);
        x.scan(0);
        check.same("ZERO", x.count(2), 2);
        x.scan(-1);
        check.same("a BAD one", x.count(2), 2);
        x.set(0, 0);
        x.set(3, 0);
        x.scan(0);
        check.same("one without again", x.count(2), 2);
        x.start();
        check.same("none behind start()", x.count(2), 0);
        ScanMachine none = started();
        check.same("a scan without a step", none.scan(0), 0);
        check.same("which is no fault", none.count(2), 0);
    }

    private static void mayTake() {
        check.about("3 the steps that a scan may take (0, if none may be run)");
        ScanMachine x = Op.program(16, push(1), store(0));
        check.same("before start()", x.count(3), 0);
        x.start();
        check.same("behind start()", x.count(3), 2);
        x.scan(0);
        check.same("behind a scan", x.count(3), 2);
        x.add(Op.LEAVE, 0, 0, 0);
        check.same("behind add()", x.count(3), 0);
        x.start();
        check.same("one more", x.count(3), 3);
        x.add(Op.PUSH, 0, 0, 0);
        check.same("start() with a fault behind LEAVE", x.start(), 0);
        check.same("what no way goes to", x.count(3), 3);
        x.add(19, 0, 0, 0);
        check.same("start() with a fault", x.start(), 2);
        check.same("behind a fault", x.count(3), 0);
        check.same("of 20000", started(count(0, 9_999), next(0, 3), back(1)).count(3), 20_000);
    }

    private static void now() {
        check.about("4 NOW");
        ScanMachine x = dividing();
        check.same("at first", x.count(4), 0);
        x.scan(100_000_000);
        check.same("behind one", x.count(4), 100_000_000);
        x.scan(0);
        check.same("behind one of 0", x.count(4), 100_000_000);
        x.scan(100_000_001);
        check.same("behind a BAD one", x.count(4), 100_000_000);
        x.set(0, 1);
        check.same("a fault", x.scan(5), ZERO);
        check.same("behind a fault", x.count(4), 100_000_005);
        x.start();
        check.same("behind start()", x.count(4), 0);
    }

    private static void greatestDepth() {
        check.about("5 the greatest depth that the stack had in the last scan");
        ScanMachine x = dividing();
        check.same("without", x.count(5), 0);
        x.scan(0);
        check.same("one", x.count(5), 1);
        x.set(0, 1);
        x.set(1, 1);
        x.scan(0);
        check.same("two", x.count(5), 2);
        x.set(1, 0);
        x.scan(0);
        check.same("two before a fault", x.count(5), 2);
        x.set(0, 0);
        x.scan(0);
        check.same("one again", x.count(5), 1);
        x.scan(-1);
        check.same("behind a BAD one", x.count(5), 1);
        x.start();
        check.same("behind start()", x.count(5), 0);
        ScanMachine none = started(block(0, 0), go(2));
        none.scan(0);
        check.same("none", none.count(5), 0);
        ScanMachine takes = started(push(1), push(2), push(3), choose(), one(1), store(0));
        takes.scan(0);
        check.same("what is taken makes it no greater", takes.count(5), 3);
    }

    private static void depthThroughUnits() {
        check.about("the stack");
        ScanMachine x = cells(16);
        unit(x, 2, -1, push(1), push(2), push(3), store(0), store(0), store(0));
        unit(x, 2, 8, push(1), enter(0, 0), store(1));
        unit(x, 8, 0, push(1), push(2), call(1), store(0), enter(0, 0), store(0));
        check.same("start()", x.start(), 0);
        check.same("scan()", x.scan(0), 6 + 3 + 6 + 6);
        check.same("2 and 1 and 3", x.count(5), 6);
    }

    private static void anotherNumber() {
        check.about("BAD: another number.");
        ScanMachine x = dividing();
        for (int which : new int[] {-1, 6, 7, LEAST, MOST}) {
            check.same("count(" + which + ")", x.count(which), BAD);
            check.same("count(" + which + ") of a new one", new ScanMachine().count(which), BAD);
        }
        for (int which = 0; which <= 5; which++) {
            check.same("count(" + which + ") of a new one", new ScanMachine().count(which), 0);
        }
    }
}
