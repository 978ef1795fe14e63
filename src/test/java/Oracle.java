import java.math.BigInteger;
import java.util.ArrayList;
import java.util.HashMap;
import java.util.HashSet;
import java.util.List;
import java.util.Map;
import java.util.Set;

/**
 * The document a second time, in other ways than the class: numbers without a bound, sets, recursion, and
 * steps found by going every way with every value of every counter. Only for code with few ways.
 */
final class Oracle {
    static final class Unit {
        final int frame;
        final int place;
        final List<int[]> code = new ArrayList<>();

        Unit(int frame, int place) {
            this.frame = frame;
            this.place = place;
        }
    }

    static final class Fault extends RuntimeException {
        private static final long serialVersionUID = 1L;
        final int answer;

        Fault(int answer) {
            this.answer = answer;
        }
    }

    private static final String TAKEN = "0011201213010000000";
    private static final String LEFT = "1101010111000000000";

    final int total;
    final List<Unit> units = new ArrayList<>();
    final List<Long> steps = new ArrayList<>();
    int[] cells;
    int now;
    int ran;
    int deepest;
    final List<Integer> stack = new ArrayList<>();

    Oracle(int total) {
        this.total = total;
    }

    // ---- the proof

    int start() {
        cells = new int[total];
        now = 0;
        steps.clear();
        for (int u = 0; u < units.size(); u++) {
            int fault = faultOf(u);
            if (fault != 0) {
                return fault;
            }
        }
        return steps.get(units.size() - 1) > 20000 ? 12 : 0;
    }

    private int faultOf(int u) {
        if (placeFault(u)) {
            return 1;
        }
        List<int[]> code = units.get(u).code;
        for (int i = 0; i < code.size(); i++) {
            int fault = plainFault(u, i, code.get(i));
            if (fault != 0) {
                return fault;
            }
        }
        for (int i = 0; i < code.size(); i++) {
            if (loopFault(code, i)) {
                return 7;
            }
        }
        int fault = stackFault(code);
        if (fault != 0) {
            return fault;
        }
        long most = longestWay(u);
        steps.add(most);
        return most > 1_000_000_000L ? 11 : 0;
    }

    private Set<Integer> placed(int u) {
        Set<Integer> set = new HashSet<>();
        Unit unit = units.get(u);
        for (int k = 0; unit.place >= 0 && k < unit.frame; k++) {
            set.add(unit.place + k);
        }
        return set;
    }

    private boolean placeFault(int u) {
        if (u == units.size() - 1 && units.get(u).place != 0) {
            return true;
        }
        for (int cell : placed(u)) {
            if (cell >= total) {
                return true;
            }
            for (int other = 0; other < u; other++) {
                if (placed(other).contains(cell)) {
                    return true;
                }
            }
        }
        return false;
    }

    private static boolean within(long x, long low, long high) {
        return low <= x && x <= high;
    }

    private int plainFault(int u, int i, int[] it) {
        int n = it[0];
        int a = it[1];
        int b = it[2];
        int c = it[3];
        if (!within(n, 0, 18) || n == 7 && !within(a, 0, 24) || n == 8 && !within(a, 0, 7)
                || n == 12 && !within(b, 0, 1000000) || n == 17 && !within(a, 0, 8) || (n == 3 || n == 4) && c < 1) {
            return 2;
        }
        if (n == 5 || n == 6 || n == 15 || n == 16) {
            if (!within(a, 0, u - 1) || (n == 15) != (units.get(a).place == -1)) {
                return 3;
            }
        }
        long from = n == 5 || n == 6 || n == 15 || n == 17 ? b : a;
        long many = n == 1 || n == 2 || n == 12 || n == 13 || n == 5 || n == 6 ? 1 : n == 3 || n == 4 ? c
                : n == 15 ? units.get(a).frame : n == 17 ? (a <= 4 ? 6 : 3) : -1;
        Unit owner = units.get(n == 5 || n == 6 ? a : u);
        if (many >= 0) {
            if (from < 0 || many > 0 && from + many - 1 >= owner.frame) {
                return 4;
            }
            for (int[] other : owner.code) {
                if ((other[0] == 12 || other[0] == 13) && n != 12 && n != 13
                        && within(other[1], from, from + many - 1)) {
                    return 5;
                }
            }
        }
        int size = units.get(u).code.size();
        if ((n == 10 || n == 11) && !within(a, i + 1, size) || n == 13 && !within(b, i + 1, size)
                || n == 14 && !within(a, 0, i - 1)) {
            return 6;
        }
        return 0;
    }

    private static boolean in(List<int[]> code, int i, int next) {
        return next < i && i < code.get(next)[2];
    }

    private static boolean is(List<int[]> code, int i, int number) {
        return 0 <= i && i < code.size() && code.get(i)[0] == number;
    }

    private static boolean loopFault(List<int[]> code, int i) {
        int[] it = code.get(i);
        int n = it[0];
        for (int j = 0; j < code.size(); j++) {
            if (code.get(j)[0] != 13) {
                continue;
            }
            if (n == 12 && in(code, i, j) && code.get(j)[1] == it[1]) {
                return true;
            }
            if (n == 13 && j != i && in(code, i, j) && !in(code, it[2] - 1, j)) {
                return true;
            }
            if ((n == 10 || n == 11) && (it[1] == j || in(code, it[1], j)) && !in(code, i, j)) {
                return true;
            }
        }
        if (n == 12) {
            return !is(code, i + 1, 13) || code.get(i + 1)[1] != it[1];
        }
        if (n == 13) {
            return !is(code, i - 1, 12) || code.get(i - 1)[1] != it[1]
                    || !is(code, it[2] - 1, 14) || code.get(it[2] - 1)[1] != i;
        }
        return n == 14 && (!is(code, it[1], 13) || code.get(it[1])[2] != i + 1);
    }

    private static List<Integer> successors(List<int[]> code, int i) {
        int[] it = code.get(i);
        List<Integer> all = new ArrayList<>();
        if (it[0] != 10 && it[0] != 14 && it[0] != 18) {
            all.add(i + 1);
        }
        if (it[0] == 10 || it[0] == 11 || it[0] == 14) {
            all.add(it[1]);
        }
        if (it[0] == 13) {
            all.add(it[2]);
        }
        if (it[0] == 18) {
            all.add(code.size());
        }
        return all;
    }

    private static int stackFault(List<int[]> code) {
        Map<Integer, Integer> depth = new HashMap<>();
        depth.put(0, 0);
        depth.put(code.size(), 0);
        for (int i = 0; i < code.size(); i++) {
            if (!depth.containsKey(i)) {
                continue;
            }
            int taken = TAKEN.charAt(code.get(i)[0]) - '0';
            int left = LEFT.charAt(code.get(i)[0]) - '0';
            if (taken > depth.get(i)) {
                return 8;
            }
            int behind = depth.get(i) - taken + left;
            if (behind > 64) {
                return 9;
            }
            for (int target : successors(code, i)) {
                if (depth.getOrDefault(target, behind) != behind) {
                    return 10;
                }
                depth.put(target, behind);
            }
        }
        return 0;
    }

    private long longestWay(int u) {
        return longest(units.get(u).code, 0, new HashMap<>(), new HashMap<>());
    }

    private long longest(List<int[]> code, int i, Map<Integer, Integer> counters, Map<String, Long> known) {
        if (i == code.size()) {
            return 0;
        }
        String key = i + " " + counters;
        Long found = known.get(key);
        if (found != null) {
            return found;
        }
        int[] it = code.get(i);
        long most = -1;
        if (it[0] == 13) {
            int left = counters.get(it[1]);
            most = longest(code, left == 0 ? it[2] : i + 1, with(counters, it[1], left == 0 ? null : left - 1), known);
        } else if (it[0] == 12) {
            most = longest(code, i + 1, with(counters, it[1], it[2]), known);
        } else {
            for (int target : successors(code, i)) {
                most = Math.max(most, longest(code, target, counters, known));
            }
        }
        long own = it[0] == 15 || it[0] == 16 ? 1 + steps.get(it[1]) : 1;
        known.put(key, most + own);
        return most + own;
    }

    private static Map<Integer, Integer> with(Map<Integer, Integer> counters, int cell, Integer value) {
        Map<Integer, Integer> changed = new HashMap<>(counters);
        if (value == null) {
            changed.remove(cell);
        } else {
            changed.put(cell, value);
        }
        return changed;
    }

    // ---- the scan

    int scan(int ticks) {
        now += ticks;
        ran = 0;
        deepest = 0;
        stack.clear();
        try {
            run(units.get(units.size() - 1), 0);
            return ran;
        } catch (Fault fault) {
            return fault.answer;
        }
    }

    private int pop() {
        return stack.remove(stack.size() - 1);
    }

    private void push(int v) {
        stack.add(v);
        deepest = Math.max(deepest, stack.size());
    }

    private void run(Unit unit, int base) {
        int i = 0;
        while (i < unit.code.size()) {
            int[] it = unit.code.get(i);
            int a = it[1];
            int b = it[2];
            ran++;
            i++;
            switch (it[0]) {
                case 0 -> push(a);
                case 1 -> push(cells[base + a]);
                case 2 -> cells[base + a] = pop();
                case 3 -> push(cells[base + a + offset(it)]);
                case 4 -> {
                    int v = pop();
                    cells[base + a + offset(it)] = v;
                }
                case 5 -> push(cells[units.get(a).place + b]);
                case 6 -> cells[units.get(a).place + b] = pop();
                case 7 -> {
                    int y = pop();
                    push(two(a, pop(), y));
                }
                case 8 -> push(one(a, pop()));
                case 9 -> {
                    int y = pop();
                    int x = pop();
                    push(pop() == 0 ? x : y);
                }
                case 10, 14 -> i = a;
                case 11 -> {
                    if (pop() == 0) {
                        i = a;
                    }
                }
                case 12 -> cells[base + a] = b;
                case 13 -> {
                    if (cells[base + a] == 0) {
                        i = b;
                    } else {
                        cells[base + a]--;
                    }
                }
                case 15 -> run(units.get(a), base + b);
                case 16 -> run(units.get(a), units.get(a).place);
                case 17 -> block(a, base + b);
                default -> i = unit.code.size();
            }
        }
    }

    private int offset(int[] it) {
        BigInteger offset = big(pop()).subtract(big(it[2]));
        if (offset.signum() < 0 || offset.compareTo(big(it[3])) >= 0) {
            throw new Fault(-3);
        }
        return offset.intValueExact();
    }

    private static BigInteger big(long x) {
        return BigInteger.valueOf(x);
    }

    /** The number of so many bits, with sign, that the lowest bits of x are. */
    static int wrap(BigInteger x, int bits) {
        BigInteger modulus = BigInteger.ONE.shiftLeft(bits);
        BigInteger low = x.mod(modulus);
        return (low.testBit(bits - 1) ? low.subtract(modulus) : low).intValueExact();
    }

    static int two(int a, int x, int y) {
        if (y == 0 && (a == 3 || a == 4 || a == 8 || a == 9)) {
            throw new Fault(-2);
        }
        int bits = a <= 4 || a == 19 || a == 20 ? 16 : 32;
        BigInteger p = big(x);
        BigInteger q = big(y);
        boolean fits = y >= 0 && y < bits;
        return switch (a) {
            case 0, 5 -> wrap(p.add(q), bits);
            case 1, 6 -> wrap(p.subtract(q), bits);
            case 2, 7 -> wrap(p.multiply(q), bits);
            case 3, 8 -> wrap(p.divide(q), bits);
            case 4, 9 -> wrap(p.remainder(q), bits);
            case 10 -> wrap(p.and(q), 32);
            case 11 -> wrap(p.or(q), 32);
            case 12 -> wrap(p.xor(q), 32);
            case 13 -> x == y ? 1 : 0;
            case 14 -> x == y ? 0 : 1;
            case 15 -> p.compareTo(q) < 0 ? 1 : 0;
            case 16 -> p.compareTo(q) > 0 ? 1 : 0;
            case 17 -> p.compareTo(q) > 0 ? 0 : 1;
            case 18 -> p.compareTo(q) < 0 ? 0 : 1;
            case 19, 21 -> fits ? wrap(p.shiftLeft(y), bits) : 0;
            case 20, 22 -> fits ? wrap(p.mod(BigInteger.ONE.shiftLeft(bits)).shiftRight(y), bits) : 0;
            case 23 -> p.min(q).intValueExact();
            default -> p.max(q).intValueExact();
        };
    }

    static int one(int a, int x) {
        BigInteger p = big(x);
        return switch (a) {
            case 0 -> wrap(p.negate(), 16);
            case 1 -> wrap(p.negate(), 32);
            case 2 -> x == 0 ? 1 : 0;
            case 3 -> wrap(p.not(), 32);
            case 4 -> wrap(p.abs(), 16);
            case 5 -> wrap(p.abs(), 32);
            case 6 -> wrap(p, 16);
            default -> x == 0 ? 0 : 1;
        };
    }

    private void block(int kind, int at) {
        if (kind <= 2) {
            timer(kind, at);
        } else if (kind <= 4) {
            counter(kind, at);
        } else if (kind <= 6) {
            int clk = cells[at] != 0 ? 1 : 0;
            int m = cells[at + 2] != 0 ? 1 : 0;
            cells[at + 1] = clk != m && clk == (kind == 5 ? 1 : 0) ? 1 : 0;
            cells[at + 2] = clk;
        } else {
            boolean s = cells[at] != 0;
            boolean r = cells[at + 1] != 0;
            boolean q = cells[at + 2] != 0;
            cells[at + 2] = (kind == 7 ? s || !r && q : !r && (s || q)) ? 1 : 0;
        }
    }

    private void timer(int kind, int at) {
        boolean in = cells[at] != 0;
        boolean m = cells[at + 4] != 0;
        BigInteger p = big(cells[at + 1]).max(BigInteger.ZERO);
        BigInteger d = big(now).subtract(big(cells[at + 5]));
        int grown = wrap(p.min(big(cells[at + 3]).add(d)), 32);
        int span = p.intValueExact();
        if (kind == 0) {
            if (!in) {
                cells[at + 2] = 0;
                cells[at + 3] = 0;
            } else {
                cells[at + 3] = m ? grown : 0;
                cells[at + 2] = cells[at + 3] < span ? 0 : 1;
            }
        } else if (kind == 1) {
            if (in) {
                cells[at + 2] = 1;
                cells[at + 3] = 0;
            } else if (m) {
                cells[at + 3] = 0;
                cells[at + 2] = span > 0 ? 1 : 0;
            } else if (cells[at + 2] != 0) {
                cells[at + 3] = grown;
                cells[at + 2] = grown < span ? 1 : 0;
            }
        } else {
            if (cells[at + 2] != 0) {
                cells[at + 3] = grown;
                if (grown >= span) {
                    cells[at + 2] = 0;
                }
            }
            if (cells[at + 2] == 0 && in && !m) {
                cells[at + 3] = 0;
                if (span > 0) {
                    cells[at + 2] = 1;
                }
            } else if (cells[at + 2] == 0 && !in) {
                cells[at + 3] = 0;
            }
        }
        cells[at + 4] = in ? 1 : 0;
        cells[at + 5] = now;
    }

    private void counter(int kind, int at) {
        boolean edge = cells[at] != 0 && cells[at + 5] == 0;
        boolean second = cells[at + 1] != 0;
        if (kind == 3) {
            if (second) {
                cells[at + 4] = 0;
            } else if (edge && cells[at + 4] < 32767) {
                cells[at + 4]++;
            }
            cells[at + 3] = cells[at + 4] < cells[at + 2] ? 0 : 1;
        } else {
            if (second) {
                cells[at + 4] = cells[at + 2];
            } else if (edge && cells[at + 4] > -32768) {
                cells[at + 4]--;
            }
            cells[at + 3] = cells[at + 4] > 0 ? 0 : 1;
        }
        cells[at + 5] = cells[at] != 0 ? 1 : 0;
    }
}
