/** The boundary sentences of fault 11, of the answer 12, and of what steps are. */
public final class EdgesOfStepsTest extends Edges {
    private static final int BILLION = 1_000_000_000;

    public static void main(String[] args) {
        check = new Check("EdgesOfStepsTest");
        aboveABillion();
        eachIsOne();
        unitsThatAreBegun();
        eitherWay();
        asOftenAsTold();
        leftInOneTime();
        leftByLeave();
        above20000();
        programsAlone();
        check.end();
    }

    private static void steps(int due, String what, int[]... rows) {
        ScanMachine x = started(rows);
        check.same("count(3) of " + what, x.count(3), due);
    }

    /** A unit of so many steps, from 999,998,006 on: two loops in one another, one beside, and single ones. */
    private static void longUnit(ScanMachine x, int frame, int place, int steps) {
        unit(x, frame, place, count(0, 1_000), next(0, 6), count(1, 499_997), next(1, 5), back(3), back(1));
        int rest = steps - 999_998_002;
        int times = (rest - 2) / 2;
        Op.addAll(x, count(0, times), next(0, 9), back(7));
        for (int left = rest - 2 - 2 * times; left > 0; left--) {
            Op.addAll(x, leave());
        }
    }

    private static void aboveABillion() {
        check.about("FAULT 11 (at -1), if they are above 1,000,000,000");
        int[] near = {BILLION - 2, BILLION - 1, BILLION, BILLION + 1, BILLION + 2};
        for (int steps : near) {
            ScanMachine x = cells(16);
            longUnit(x, 16, 0, steps);
            check.same("start() of " + steps, x.start(), steps <= BILLION ? 12 : 11);
        }
        for (int steps : near) {
            ScanMachine x = cells(16);
            longUnit(x, 4, -1, steps);
            unit(x, 4, 0, leave());
            check.same("start() beside " + steps, x.start(), steps <= BILLION ? 0 : 11);
        }
        // products far above 64 bits
        int[][] rows = new int[255][];
        for (int k = 0; k < 85; k++) {
            rows[2 * k] = count(k, 1_000_000);
            rows[2 * k + 1] = next(k, 255 - k);
            rows[254 - k] = back(2 * k + 1);
        }
        check.same("start() of 85 loops in one another", Op.faultOf(85, rows), 11);
        rows[0] = count(0, 0);
        check.same("start() of 84 in one of 0 times", Op.faultOf(85, rows), 0);
    }

    private static void eachIsOne() {
        check.about("Each instruction is one step");
        steps(0, "none");
        steps(1, "one", leave());
        steps(2, "two", push(0), store(0));
        int[][] rows = new int[256][];
        for (int k = 0; k < 256; k++) {
            rows[k] = k % 2 == 0 ? push(k) : store(0);
        }
        steps(256, "256", rows);
        steps(7, "one of most numbers", push(0), one(1), push(1), push(2), choose(), store(0), block(0, 0));
    }

    private static void unitsThatAreBegun() {
        check.about("15 and 16 are one and the steps of unit a");
        ScanMachine x = cells(16);
        unit(x, 2, -1, push(0), store(0));
        unit(x, 2, 8, enter(0, 0), enter(0, 0));
        unit(x, 2, -1);
        unit(x, 4, 0, enter(0, 0), call(1), enter(2, 0));
        check.same("start()", x.start(), 0);
        check.same("count(3)", x.count(3), (1 + 2) + (1 + 6) + 1);
        check.same("scan()", x.scan(0), 11);
        for (int more = 0; more <= 1; more++) {
            for (int place : new int[] {-1, 8}) {
                ScanMachine y = cells(16);
                longUnit(y, 4, place, BILLION - 1);
                unit(y, 4, 0, place == -1 ? enter(0, 0) : call(0));
                for (int k = 0; k < more; k++) {
                    Op.addAll(y, leave());
                }
                check.same("start() of 1000000000 and " + more + " by one at " + place, y.start(), more == 0 ? 12 : 11);
            }
        }
        // each of 16 units begins the one before twice
        ScanMachine z = cells(16);
        unit(z, 1, -1, leave());
        for (int u = 1; u < 15; u++) {
            unit(z, 1, -1, enter(u - 1, 0), enter(u - 1, 0));
        }
        unit(z, 1, 0, enter(12, 0));
        check.same("start() of many begun", z.start(), 0);
        check.same("count(3) of many begun", z.count(3), 1 + (3 * 4096 - 2));
        check.same("scan() of many begun", z.scan(0), 12287);
    }

    private static void eitherWay() {
        check.about("Ways may go either way at 11");
        steps(4, "a longer way on", push(0), unless(4), push(0), store(0));
        steps(5, "a longer way there", push(0), unless(3), leave(), push(0), store(0), leave());
        steps(3, "the next one by both", push(0), unless(2), leave());
        steps(6, "the longest one by two", push(0), unless(6), push(0), unless(6), push(0), store(0));
        // a way that no numbers can go counts all the same
        steps(5, "a way that PUSH 0 never goes", push(0), unless(5), push(0), store(0), leave());
        ScanMachine x = started(push(0), unless(4), push(0), store(0));
        check.same("scan() on the shorter way", x.scan(0), 2);
    }

    private static void asOftenAsTold() {
        check.about("a loop is gone through as often as the 12 before it says, and then goes on from its 13 to where that goes");
        for (int times : new int[] {0, 1, 2, 3, 9}) {
            int[][] rows = {count(0, times), next(0, 5), push(0), store(1), back(1), leave()};
            steps(1 + 4 * times + 1 + 1, times + " times", rows);
            check.same("scan() of " + times + " times", started(rows).scan(0), 3 + 4 * times);
            int[][] nest = {count(0, times), next(0, 6), count(1, 2), next(1, 5), back(3), back(1)};
            steps(1 + times * (1 + 6 + 1) + 1, times + " times 2 times", nest);
            check.same("scan() of " + times + " times 2 times", started(nest).scan(0), 2 + 8 * times);
            int[][] other = {count(0, 2), next(0, 6), count(1, times), next(1, 5), back(3), back(1)};
            steps(1 + 2 * (1 + (2 + 2 * times) + 1) + 1, "2 times " + times + " times", other);
        }
    }

    private static void leftInOneTime() {
        check.about("or it is left in one of these times, by 10, 11 or 18");
        // it may be left behind the last UNLESS, for a way of more steps than to its end and on
        int[][] longer = {count(0, 3), next(0, 5), push(0), unless(6), back(1), leave(), push(0), store(1), push(0), store(1)};
        steps(1 + 2 * 4 + 3 + 4, "3 times, the last one left for a longer way", longer);
        int[][] shorter = {count(0, 3), next(0, 5), push(0), unless(7), back(1), push(0), store(1)};
        steps(1 + 3 * 4 + 1 + 2, "3 times, and none left for a shorter way", shorter);
        int[][] once = {count(0, 1), next(0, 5), push(0), unless(6), back(1), leave(), push(0), store(1)};
        steps(1 + 4 + 1 + 1, "1 time, and not left for a way of one step less", once);
        int[][] never = {count(0, 0), next(0, 5), push(0), unless(6), back(1), leave(), push(0), store(1), push(0), store(1)};
        steps(3, "0 times, that is left in none", never);
        steps(5, "always left by GO", count(0, 9), next(0, 4), go(4), back(1), push(0), store(1));
        steps(3, "always left by GO to the end", count(0, 9), next(0, 4), go(6), back(1), push(0), store(1));
        // out of the inner loop into the outer one, in each of the outer one's times
        steps(1 + 3 * (1 + 3 + 1) + 1, "an inner one that is always left", count(0, 3), next(0, 7), count(1, 5), next(1, 6),
                go(6), back(3), back(1));
        steps(4 + 1 + 1, "both always left by one", count(0, 3), next(0, 7), count(1, 5), next(1, 6), go(7), back(3), back(1),
                leave());
    }

    private static void leftByLeave() {
        check.about("by 10, 11 or 18");
        steps(3, "always left by LEAVE", count(0, 9), next(0, 4), leave(), back(1), push(0), store(1));
        steps(4, "never begun, and LEAVE in it", count(0, 0), next(0, 4), leave(), back(1), push(0), store(1));
        int[][] rows = {count(0, 3), next(0, 6), push(0), unless(5), leave(), back(1), push(0), store(1)};
        steps(1 + 3 * 4 + 1 + 2, "3 times, or by LEAVE", rows);
        int[][] last = {count(0, 3), next(0, 9), push(0), unless(8), push(0), store(1), leave(), leave(), back(1)};
        steps(1 + 2 * 4 + 6, "twice, and then a longer way to LEAVE", last);
    }

    private static void above20000() {
        check.about("12, if there is none, but the program's steps are above 20,000");
        int[][] at = {count(0, 9_999), next(0, 3), back(1)};
        ScanMachine x = started(at);
        check.same("count(3)", x.count(3), 20_000);
        check.same("scan() of 20000", x.scan(0), 20_000);
        check.same("count(0)", x.count(0), 20_000);
        starts(12, "20001", count(0, 9_999), next(0, 3), back(1), leave());
        starts(12, "20002", count(0, 10_000), next(0, 3), back(1));
        steps(19_998, "19998", count(0, 9_998), next(0, 3), back(1));
        for (int more = 0; more <= 1; more++) {
            ScanMachine y = cells(16);
            unit(y, 4, 8, count(0, 9_998), next(0, 3), back(1), leave());
            unit(y, 4, 0, call(0));
            for (int k = 0; k < more; k++) {
                Op.addAll(y, leave());
            }
            check.same("start() of 20000 by CALL and " + more, y.start(), more == 0 ? 0 : 12);
        }
        ScanMachine z = Op.program(16, count(0, 9_999), next(0, 3), back(1), leave());
        check.same("start() of 20001", z.start(), 12);
        check.same("scan() behind 12", z.scan(0), BAD);
        check.same("get() behind 12", z.get(0), BAD);
        check.same("count(3) behind 12", z.count(3), 0);
        // no 12 with a fault
        starts(10, "20002 and a fault", count(0, 10_000), next(0, 3), back(1), push(0));
    }

    private static void programsAlone() {
        check.about("but the program's steps are above 20,000");
        ScanMachine x = cells(16);
        unit(x, 4, -1, count(0, 1_000_000), next(0, 3), back(1));
        unit(x, 4, 0, leave(), enter(0, 0));
        check.same("start() beside a long unit that no way begins", x.start(), 0);
        check.same("count(3)", x.count(3), 1);
        ScanMachine y = cells(16);
        unit(y, 4, -1, count(0, 1_000_000), next(0, 3), back(1));
        unit(y, 4, 0, push(0), unless(3), enter(0, 0));
        check.same("start() with a way that begins it", y.start(), 12);
        // a program that begins too long a unit as one of 0 times
        ScanMachine z = cells(16);
        unit(z, 4, -1, count(0, 1_000_000), next(0, 3), back(1));
        unit(z, 6, 0, count(5, 0), next(5, 4), enter(0, 0), back(1));
        check.same("start() with 0 times a long unit", z.start(), 0);
        check.same("count(3) of that", z.count(3), 2);
    }
}
