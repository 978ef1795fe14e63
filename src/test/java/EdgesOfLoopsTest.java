/** The boundary sentences of fault 7. */
public final class EdgesOfLoopsTest extends Edges {
    public static void main(String[] args) {
        check = new Check("EdgesOfLoopsTest");
        allFromThe13();
        loopsOfOtherUnits();
        behindThe12();
        counterOfAnOuterLoop();
        beforeThe13();
        lastOfTheLoop();
        oneInAnother();
        whereA14Goes();
        goingIntoALoop();
        beforeTheStack();
        check.end();
    }

    private static void allFromThe13() {
        check.about("a LOOP is all from a 13 to the instruction before the one where it goes; the 13 is not IN it, all others are");
        starts(0, "a loop of its BACK alone", count(0, 1), next(0, 3), back(1));
        starts(0, "GO in a loop to its last one", count(0, 1), next(0, 5), go(4), leave(), back(1));
        starts(0, "GO to the one behind a loop", go(4), count(0, 1), next(0, 4), back(2), leave());
        starts(7, "GO to the last one of a loop", go(3), count(0, 1), next(0, 4), back(2), leave());
        starts(0, "a COUNT right behind a loop, with its counter",
                count(0, 1), next(0, 3), back(1), count(0, 1), next(0, 6), back(4));
    }

    private static void loopsOfOtherUnits() {
        check.about("Of each unit it is looked at, in this order, the first fault being the answer");
        // GO to 1 and 2 goes into a loop of the unit before, and of the code before, but into none of its own
        ScanMachine x = cells(16);
        unit(x, 4, -1, count(0, 1), next(0, 4), leave(), back(1));
        unit(x, 4, 0, go(1), go(2), take(0, 9, 1), leave());
        check.same("start() with a loop in the unit before", x.start(), 8);
        x.begin(16);
        unit(x, 4, 0, push(0), unless(2), go(3), leave());
        check.same("start() with a loop in the code before", x.start(), 0);
        x.begin(16);
        unit(x, 4, -1, count(0, 1), next(0, 4), leave(), back(1));
        unit(x, 4, 0, go(1), leave());
        check.same("start() with a GO to 1 behind a unit whose 13 is 1", x.start(), 0);
    }

    private static void behindThe12() {
        check.about("FAULT 7: of 12: right behind it is no 13 with the same a");
        starts(0, "one with the same a", count(3, 1), next(3, 3), back(1));
        starts(7, "one with the a above", count(3, 1), next(4, 3), back(1));
        starts(7, "one with the a below", count(3, 1), next(2, 3), back(1));
        starts(7, "nothing behind it", count(3, 1));
        starts(7, "one that is not right behind it", count(3, 1), leave(), next(3, 4), back(2));
        starts(7, "two of them", count(3, 1), count(3, 1), next(3, 4), back(2));
        starts(7, "two of other counters", count(2, 1), count(3, 1), next(3, 4), back(2));
        starts(7, "one that no way goes to", leave(), count(3, 1));
        // the next unit's first instruction is not behind it: 7 comes before the 10 of this unit
        ScanMachine x = cells(16);
        unit(x, 4, -1, push(0), count(3, 1));
        unit(x, 4, 0, next(3, 2), back(0));
        check.same("start() with the 13 in the unit behind", x.start(), 7);
    }

    private static void counterOfAnOuterLoop() {
        check.about("or it is in a loop whose 13 has the same a");
        starts(0, "another a", count(0, 1), next(0, 6), count(1, 1), next(1, 5), back(3), back(1));
        starts(7, "the same a", count(0, 1), next(0, 6), count(0, 1), next(0, 5), back(3), back(1));
        starts(7, "the same a two loops out", count(0, 1), next(0, 9), count(1, 1), next(1, 8), count(0, 1), next(0, 7),
                back(5), back(3), back(1));
        starts(0, "the same a beside it", count(0, 1), next(0, 9), count(1, 1), next(1, 5), back(3), count(1, 1), next(1, 8),
                back(6), back(1));
        starts(0, "the same a right behind it", count(0, 1), next(0, 3), back(1), count(0, 1), next(0, 6), back(4));
    }

    private static void beforeThe13() {
        check.about("Of 13: right before it is no 12 with the same a");
        starts(7, "nothing before it", next(0, 2), back(0));
        starts(7, "another one before it", leave(), next(0, 3), back(1));
        starts(7, "a 12 that is not right before it", count(0, 1), push(0), next(0, 4), back(2));
        starts(7, "a second 13 behind one 12", count(0, 1), next(0, 5), next(0, 4), back(2), back(1));
        ScanMachine x = cells(16);
        unit(x, 4, -1, leave());
        unit(x, 4, 0, next(0, 2), back(0));
        check.same("start() with none before it in the second unit", x.start(), 7);
    }

    private static void lastOfTheLoop() {
        check.about("or the last instruction of its loop is not a 14 that goes to it");
        starts(0, "one that does", count(0, 1), next(0, 4), leave(), back(1));
        starts(7, "one behind the 14", count(0, 1), next(0, 5), leave(), back(1), leave());
        starts(7, "one before the 14", count(0, 1), next(0, 3), leave(), back(1));
        starts(7, "the 13 itself", count(0, 1), next(0, 2), back(1));
        starts(7, "no 14 at all", count(0, 1), next(0, 3), leave());
        starts(7, "a 14 that goes to the 12", count(0, 1), next(0, 3), back(0));
        starts(7, "a 14 that goes to the loop round it",
                count(0, 1), next(0, 6), count(1, 1), next(1, 5), back(1), back(1));
    }

    private static void oneInAnother() {
        check.about("or it is in another loop, and its own last one is not");
        starts(0, "it is", count(0, 1), next(0, 6), count(1, 1), next(1, 5), back(3), back(1));
        starts(7, "it is not", count(0, 1), next(0, 5), count(1, 1), next(1, 6), back(1), back(3));
        starts(7, "both end with one 14", count(0, 1), next(0, 5), count(1, 1), next(1, 5), back(1));
        starts(7, "the inner one goes to the outer one's 14", count(0, 1), next(0, 5), count(1, 1), next(1, 4), back(1));
        starts(0, "one right behind the other", count(0, 1), next(0, 3), back(1), count(1, 1), next(1, 6), back(4));
    }

    private static void whereA14Goes() {
        check.about("Of 14: where it goes is no 13 that goes right behind it");
        starts(0, "it is", count(0, 1), next(0, 3), back(1));
        starts(7, "no 13", leave(), back(0));
        starts(7, "a 12", count(0, 1), next(0, 3), back(1), back(0));
        starts(7, "one that goes to the 14", count(0, 1), next(0, 3), back(1), back(1));
        starts(7, "one that goes further", count(0, 1), next(0, 4), back(1), back(1));
        starts(7, "a 14 that no way goes to", leave(), leave(), back(0));
    }

    private static void goingIntoALoop() {
        check.about("Of 10 and 11: where they go is in a loop, or its 13, and they are not in that loop.");
        for (int to = 1; to <= 6; to++) {
            // the loop is all from 2 on (its 13) to 4
            int due = to >= 2 && to <= 4 ? 7 : 0;
            starts(due, "GO to " + to, go(to), count(0, 1), next(0, 5), leave(), back(2), leave());
            // all one further, for the number that UNLESS takes
            starts(due, "UNLESS to " + (to + 1), push(0), unless(to + 1), count(0, 1), next(0, 6), leave(), back(3), leave());
        }
        for (int to = 3; to <= 8; to++) {
            // from the outer loop to: the inner 12 is at 3, its 13 at 4, its last one at 5, the outer last one at 6
            int due = to == 4 || to == 5 ? 7 : 0;
            starts(due, "GO in a loop to " + to, count(0, 1), next(0, 7), go(to), count(1, 1), next(1, 6), back(4), back(1),
                    leave());
        }
        for (int to = 5; to <= 8; to++) {
            // from the inner loop out to all that is behind
            starts(0, "GO out of two loops to " + to, count(0, 1), next(0, 7), count(1, 1), next(1, 6), go(to), back(3),
                    back(1), leave());
        }
        starts(7, "GO from one loop to the next one's 13",
                count(0, 1), next(0, 4), go(5), back(1), count(1, 1), next(1, 7), back(5));
        starts(0, "GO from one loop to the next one's 12",
                count(0, 1), next(0, 4), go(4), back(1), count(1, 1), next(1, 7), back(5));
        starts(7, "GO from one loop into the next one",
                count(0, 1), next(0, 4), go(6), back(1), count(1, 1), next(1, 7), back(5));
    }

    private static void beforeTheStack() {
        check.about("Then its instructions in order, for LOOPS");
        starts(7, "8 before it", store(0), count(1, 1));
        starts(6, "6 behind it", count(1, 1), go(0));
        starts(7, "10 before it", push(0), unless(3), push(0), count(1, 1));
    }
}
