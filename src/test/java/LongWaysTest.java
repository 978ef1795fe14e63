import java.util.ArrayList;
import java.util.HashMap;
import java.util.List;
import java.util.Map;
import java.util.Random;
import java.util.TreeMap;

/**
 * Promise 5, steps: random code whose loops go round up to a million times, against ways that are found by
 * going each time through each loop. A unit that takes just so many steps brings each code to both limits.
 */
public final class LongWaysTest {
    private static final long FAR = 1_000_000_000_000L;
    private static final int[] TIMES = {0, 1, 1, 2, 3, 7, 40, 1000, 12_345, 999_999, 1_000_000};
    private static final int PROGRAMS = 300;

    private final Oracle oracle;
    private final List<Long> steps = new ArrayList<>();

    private LongWaysTest(Oracle oracle) {
        this.oracle = oracle;
        for (Oracle.Unit unit : oracle.units) {
            steps.add(walk(unit.code, 0, unit.code.size()).get(unit.code.size()));
        }
    }

    public static void main(String[] args) {
        Check check = new Check("LongWaysTest");
        Random random = new Random(9);
        RandomCode code = new RandomCode(random);
        int proved = 0;
        for (int tried = 0; proved < PROGRAMS && tried < 50 * PROGRAMS; tried++) {
            Oracle oracle = code.write();
            if (leavesRoom(oracle) && oracle.start() == 0) {
                proved++;
                lengthen(oracle, random);
                new LongWaysTest(oracle).compare(check);
            }
        }
        check.same("proved programs", proved, PROGRAMS);
        check.end();
    }

    private static boolean leavesRoom(Oracle oracle) {
        int length = 0;
        for (Oracle.Unit unit : oracle.units) {
            length += unit.code.size();
        }
        return length <= 240;
    }

    private static void lengthen(Oracle oracle, Random random) {
        int most = 1 + random.nextInt(TIMES.length);
        for (Oracle.Unit unit : oracle.units) {
            for (int[] it : unit.code) {
                if (it[0] == Op.COUNT) {
                    it[2] = TIMES[random.nextInt(most)];
                }
            }
        }
    }

    private void compare(Check check) {
        long longest = 0;
        for (long each : steps) {
            longest = Math.max(longest, each);
        }
        // The program calls the code and the unit of so many steps: two steps more.
        long own = steps.get(steps.size() - 1) + 2;
        for (long limit : new long[] {20_000, 1_000_000_000}) {
            for (long all = limit - 1; all <= limit + 1; all++) {
                long more = Math.max(all - own, 0);
                ScanMachine x = machine(more);
                int due = Math.max(longest, own + more) > 1_000_000_000 ? 11 : own + more > 20_000 ? 12 : 0;
                check.same("start() of code of " + own + " steps and " + more + " more", x.start(), due);
                check.same("count(3) of that", x.count(3), due == 0 ? own + more : 0);
            }
        }
    }

    private ScanMachine machine(long more) {
        ScanMachine x = new ScanMachine();
        x.begin(oracle.total + 3);
        for (Oracle.Unit unit : oracle.units) {
            x.unit(unit.frame, unit.place);
            Op.addAll(x, unit.code.toArray(new int[0][]));
        }
        int last = x.unit(3, oracle.total);
        Op.addAll(x, lasting(more).toArray(new int[0][]));
        x.unit(0, 0);
        Op.addAll(x, Op.op(Op.CALL, last - 1), Op.op(Op.CALL, last));
        return x;
    }

    /** Code of so many steps: a loop in a loop for the thousands, one for the twos, and a GO. */
    private static List<int[]> lasting(long more) {
        List<int[]> code = new ArrayList<>();
        long left = more;
        if (left >= 1002) {
            long times = Math.min((left - 2) / 1000, 1_000_000);
            code.add(Op.op(Op.COUNT, 0, (int) times));
            code.add(Op.op(Op.NEXT, 0, 6));
            code.add(Op.op(Op.COUNT, 1, 498));
            code.add(Op.op(Op.NEXT, 1, 5));
            code.add(Op.op(Op.BACK, 3));
            code.add(Op.op(Op.BACK, 1));
            left -= 2 + 1000 * times;
        }
        if (left >= 2) {
            code.add(Op.op(Op.COUNT, 2, (int) (left - 2) / 2));
            code.add(Op.op(Op.NEXT, 2, code.size() + 2));
            code.add(Op.op(Op.BACK, code.size() - 1));
            left %= 2;
        }
        if (left == 1) {
            code.add(Op.op(Op.GO, code.size() + 1));
        }
        return code;
    }

    /** The greatest number of steps from the first instruction of a part to each one where a way is or leaves. */
    private TreeMap<Integer, Long> walk(List<int[]> code, int first, int behind) {
        TreeMap<Integer, Long> best = new TreeMap<>();
        best.put(first, 0L);
        for (int i = first; i < behind; i++) {
            if (best.containsKey(i)) {
                long before = best.get(i);
                for (Map.Entry<Integer, Long> way : onFrom(code, i).entrySet()) {
                    best.merge(way.getKey(), Math.min(before + way.getValue(), FAR), Math::max);
                }
            }
        }
        return best;
    }

    private Map<Integer, Long> onFrom(List<int[]> code, int i) {
        int[] it = code.get(i);
        switch (it[0]) {
            case Op.GO:
                return Map.of(it[1], 1L);
            case Op.UNLESS:
                return it[1] == i + 1 ? Map.of(it[1], 1L) : Map.of(it[1], 1L, i + 1, 1L);
            case Op.NEXT:
                return allTimes(code, i, code.get(i - 1)[2]);
            case Op.LEAVE:
                return Map.of(code.size(), 1L);
            case Op.ENTER:
            case Op.CALL:
                return Map.of(i + 1, 1 + steps.get(it[1]));
            default:
                return Map.of(i + 1, 1L);
        }
    }

    private Map<Integer, Long> allTimes(List<int[]> code, int next, int times) {
        int behind = code.get(next)[2];
        TreeMap<Integer, Long> once = walk(code, next + 1, behind - 1);
        Long toBack = once.get(behind - 1);
        Map<Integer, Long> left = new HashMap<>();
        long before = 0;
        for (int time = 0; time < times; time++) {
            for (Map.Entry<Integer, Long> way : once.tailMap(behind).entrySet()) {
                left.merge(way.getKey(), Math.min(before + 1 + way.getValue(), FAR), Math::max);
            }
            if (toBack == null) {
                return left;
            }
            before = Math.min(before + 1 + toBack + 1, FAR);
        }
        left.merge(behind, before + 1, Math::max);
        return left;
    }
}
