import java.util.Arrays;

/**
 * A machine that runs proved code in scans: units of instructions over a stack and cells, proved as a
 * whole before the first scan, so that each scan ends within the steps that were told, or with a fault.
 *
 * <p>The proof makes most tests of an index needless; they stand all the same, so that no call can ever
 * make the Java machine throw.
 */
public final class ScanMachine {
    public static final int BAD = -1, ZERO = -2, INDEX = -3;

    private static final int MOST_UNITS = 16;
    private static final int MOST_INSTRUCTIONS = 256;
    private static final int MOST_CELLS = 4_096;
    private static final int MOST_DEPTH = 64;
    private static final int MOST_TIMES = 1_000_000;
    private static final int MOST_TICKS = 100_000_000;
    private static final int MOST_NOW = 2_000_000_000;
    private static final int MOST_SCAN_STEPS = 20_000;
    private static final long MOST_UNIT_STEPS = 1_000_000_000L;

    private static final int PUSH = 0, LOAD = 1, STORE = 2, TAKE = 3, PUT = 4, READ = 5, WRITE = 6;
    private static final int TWO = 7, ONE = 8, CHOOSE = 9, GO = 10, UNLESS = 11, COUNT = 12, NEXT = 13;
    private static final int BACK = 14, ENTER = 15, CALL = 16, BLOCK = 17, LEAVE = 18;

    private static final int CELLS_AT_FIRST = 64;
    private static final int NONE = -1;
    private static final int PROVED = 0, TOO_LONG = 12, NO_UNIT = 13;

    private final Code code;
    private final Shape shape;
    private final Loops loops;
    private final Depths depths;
    private final Ways ways;
    private final Memory memory;
    private final Runner runner;
    private int total;
    private boolean ready;
    private int allowed;
    private int now;
    private int scans;
    private int faults;

    public ScanMachine() {
        code = new Code();
        shape = new Shape(code);
        loops = new Loops(code);
        depths = new Depths(code);
        ways = new Ways(code);
        memory = new Memory();
        runner = new Runner(code, memory);
        total = CELLS_AT_FIRST;
    }

    public int begin(int t) {
        if (t < 1 || t > MOST_CELLS) {
            return BAD;
        }
        halt();
        code.forget();
        total = t;
        return t;
    }

    public int unit(int frame, int place) {
        boolean wrong = frame < 0 || frame > MOST_CELLS || place < NONE || place >= MOST_CELLS;
        if (wrong || !code.hasRoomForUnit()) {
            return BAD;
        }
        halt();
        return code.appendUnit(frame, place);
    }

    public int add(int number, int a, int b, int c) {
        if (!code.hasRoomForInstruction()) {
            return BAD;
        }
        halt();
        return code.appendInstruction(number, a, b, c);
    }

    public int start() {
        halt();
        int units = code.unitCount();
        if (units == 0) {
            return NO_UNIT;
        }
        for (int unit = 0; unit < units; unit++) {
            int fault = firstFault(unit);
            if (fault != PROVED) {
                return fault;
            }
        }
        long most = ways.stepsOf(units - 1);
        if (most > MOST_SCAN_STEPS) {
            return TOO_LONG;
        }
        allowed = (int) most;
        ready = true;
        return PROVED;
    }

    public int scan(int ticks) {
        if (!ready || ticks < 0 || ticks > MOST_TICKS || ticks > MOST_NOW - now) {
            return BAD;
        }
        now += ticks;
        scans++;
        int answer = runner.run(now);
        if (answer < 0) {
            faults++;
        }
        return answer;
    }

    public int set(int cell, int v) {
        if (!mayTouch(cell)) {
            return BAD;
        }
        int was = memory.cell(cell);
        memory.change(cell, v);
        return was;
    }

    public int get(int cell) {
        return mayTouch(cell) ? memory.cell(cell) : BAD;
    }

    public int count(int which) {
        switch (which) {
            case 0:
                return runner.steps;
            case 1:
                return scans;
            case 2:
                return faults;
            case 3:
                return allowed;
            case 4:
                return now;
            case 5:
                return memory.deepest;
            default:
                return BAD;
        }
    }

    private boolean mayTouch(int cell) {
        return ready && cell >= 0 && cell < total;
    }

    /** Cells change only while scans may be run, so there is nothing to clear otherwise. */
    private void halt() {
        if (!ready) {
            return;
        }
        ready = false;
        allowed = 0;
        now = 0;
        scans = 0;
        faults = 0;
        runner.steps = 0;
        memory.clear();
    }

    private int firstFault(int unit) {
        int fault = shape.faultOf(unit, total);
        if (fault == PROVED) {
            fault = loops.faultOf(unit);
        }
        if (fault == PROVED) {
            fault = depths.faultOf(unit);
        }
        if (fault == PROVED) {
            fault = ways.faultOf(unit);
        }
        return fault;
    }

    /** The units and their instructions as they were told, right or not. */
    private static final class Code {
        private final int[] frames = new int[MOST_UNITS];
        private final int[] places = new int[MOST_UNITS];
        private final int[] firsts = new int[MOST_UNITS];
        private final int[] sizes = new int[MOST_UNITS];
        private final int[] numbers = new int[MOST_INSTRUCTIONS];
        private final int[] as = new int[MOST_INSTRUCTIONS];
        private final int[] bs = new int[MOST_INSTRUCTIONS];
        private final int[] cs = new int[MOST_INSTRUCTIONS];
        private int units;
        private int length;

        private void forget() {
            units = 0;
            length = 0;
        }

        private boolean hasRoomForUnit() {
            return units < MOST_UNITS;
        }

        private boolean hasRoomForInstruction() {
            return units > 0 && units <= MOST_UNITS && length < MOST_INSTRUCTIONS;
        }

        private int appendUnit(int frame, int place) {
            if (!hasRoomForUnit()) {
                return BAD;
            }
            frames[units] = frame;
            places[units] = place;
            firsts[units] = length;
            sizes[units] = 0;
            units++;
            return units - 1;
        }

        private int appendInstruction(int number, int a, int b, int c) {
            if (!hasRoomForInstruction()) {
                return BAD;
            }
            numbers[length] = number;
            as[length] = a;
            bs[length] = b;
            cs[length] = c;
            length++;
            sizes[units - 1]++;
            return sizes[units - 1] - 1;
        }

        private int unitCount() {
            return units;
        }

        private boolean hasUnit(int unit) {
            return unit >= 0 && unit < units;
        }

        private int frameOf(int unit) {
            return hasUnit(unit) ? frames[unit] : 0;
        }

        private int placeOf(int unit) {
            return hasUnit(unit) ? places[unit] : NONE;
        }

        private int sizeOf(int unit) {
            return hasUnit(unit) ? sizes[unit] : 0;
        }

        private int numberAt(int unit, int i) {
            return entry(numbers, unit, i);
        }

        private int aAt(int unit, int i) {
            return entry(as, unit, i);
        }

        private int bAt(int unit, int i) {
            return entry(bs, unit, i);
        }

        private int cAt(int unit, int i) {
            return entry(cs, unit, i);
        }

        private int entry(int[] column, int unit, int i) {
            if (unit < 0 || unit >= units || i < 0 || i >= sizes[unit]) {
                return NONE;
            }
            int row = firsts[unit] + i;
            return row >= 0 && row < column.length ? column[row] : NONE;
        }
    }

    /** Faults 1 to 6: what a unit's place and each instruction by itself may be. */
    private static final class Shape {
        private static final int WRONG_PLACE = 1, NO_INSTRUCTION = 2, WRONG_UNIT = 3;
        private static final int NO_CELL = 4, COUNTER = 5, WRONG_WAY = 6;
        private static final int LAST_TWO = 24, LAST_ONE = 7, LAST_BLOCK = 8, LAST_LONG_BLOCK = 4;
        private static final int LONG_BLOCK_CELLS = 6, SHORT_BLOCK_CELLS = 3;

        private final Code code;
        private int unit;
        private int i;
        private int number;
        private int a;
        private int b;
        private int c;

        private Shape(Code code) {
            this.code = code;
        }

        private int faultOf(int looked, int total) {
            unit = looked;
            if (isPlacedWrong(total)) {
                return WRONG_PLACE;
            }
            int size = code.sizeOf(unit);
            for (int k = 0; k < size; k++) {
                lookAt(k);
                int fault = faultHere();
                if (fault != PROVED) {
                    return fault;
                }
            }
            return PROVED;
        }

        /** A unit without cells has none that could lie too high or on another's, wherever its place is. */
        private boolean isPlacedWrong(int total) {
            int place = code.placeOf(unit);
            int frame = code.frameOf(unit);
            if (unit == code.unitCount() - 1 && place != 0) {
                return true;
            }
            if (place == NONE || frame == 0) {
                return false;
            }
            return place + frame > total || meetsEarlierUnit(place, place + frame);
        }

        private boolean meetsEarlierUnit(int from, int to) {
            for (int other = 0; other < unit; other++) {
                int place = code.placeOf(other);
                int low = Math.max(from, place);
                int high = Math.min(to, place + code.frameOf(other));
                if (place != NONE && low < high) {
                    return true;
                }
            }
            return false;
        }

        private void lookAt(int k) {
            i = k;
            number = code.numberAt(unit, k);
            a = code.aAt(unit, k);
            b = code.bAt(unit, k);
            c = code.cAt(unit, k);
        }

        private int faultHere() {
            if (!isInstruction()) {
                return NO_INSTRUCTION;
            }
            if (namesWrongUnit()) {
                return WRONG_UNIT;
            }
            if (leavesFrame()) {
                return NO_CELL;
            }
            if (touchesCounter()) {
                return COUNTER;
            }
            return goesWrongWay() ? WRONG_WAY : PROVED;
        }

        private boolean isInstruction() {
            switch (number) {
                case TWO:
                    return a >= 0 && a <= LAST_TWO;
                case ONE:
                    return a >= 0 && a <= LAST_ONE;
                case COUNT:
                    return b >= 0 && b <= MOST_TIMES;
                case BLOCK:
                    return a >= 0 && a <= LAST_BLOCK;
                case TAKE:
                case PUT:
                    return c >= 1;
                default:
                    return number >= PUSH && number <= LEAVE;
            }
        }

        private boolean namesWrongUnit() {
            switch (number) {
                case READ:
                case WRITE:
                case CALL:
                    return a < 0 || a >= unit || code.placeOf(a) == NONE;
                case ENTER:
                    return a < 0 || a >= unit || code.placeOf(a) != NONE;
                default:
                    return false;
            }
        }

        private boolean leavesFrame() {
            int many = howManyCells();
            if (many == NONE) {
                return false;
            }
            int first = firstCell();
            return first < 0 || many > 0 && (long) first + many > code.frameOf(ownerOfCells());
        }

        private boolean touchesCounter() {
            int many = howManyCells();
            if (number == COUNT || number == NEXT || many == NONE) {
                return false;
            }
            int first = firstCell();
            int owner = ownerOfCells();
            int size = code.sizeOf(owner);
            for (int k = 0; k < size; k++) {
                int other = code.numberAt(owner, k);
                int cell = code.aAt(owner, k);
                if ((other == COUNT || other == NEXT) && cell >= first && (long) cell < (long) first + many) {
                    return true;
                }
            }
            return false;
        }

        private int howManyCells() {
            switch (number) {
                case LOAD:
                case STORE:
                case READ:
                case WRITE:
                case COUNT:
                case NEXT:
                    return 1;
                case TAKE:
                case PUT:
                    return c;
                case ENTER:
                    return code.frameOf(a);
                case BLOCK:
                    return a <= LAST_LONG_BLOCK ? LONG_BLOCK_CELLS : SHORT_BLOCK_CELLS;
                default:
                    return NONE;
            }
        }

        private int firstCell() {
            boolean second = number == READ || number == WRITE || number == ENTER || number == BLOCK;
            return second ? b : a;
        }

        private int ownerOfCells() {
            return number == READ || number == WRITE ? a : unit;
        }

        private boolean goesWrongWay() {
            switch (number) {
                case GO:
                case UNLESS:
                    return a <= i || a > code.sizeOf(unit);
                case NEXT:
                    return b <= i || b > code.sizeOf(unit);
                case BACK:
                    return a < 0 || a >= i;
                default:
                    return false;
            }
        }
    }

    /** Fault 7: loops lie one in another, each with a counter of its own, and begin at their COUNT alone. */
    private static final class Loops {
        private static final int WRONG_LOOP = 7;

        private final Code code;
        private final int[] nexts = new int[MOST_INSTRUCTIONS];
        private int loops;
        private int unit;

        private Loops(Code code) {
            this.code = code;
        }

        private int faultOf(int looked) {
            unit = looked;
            gatherLoops();
            int size = code.sizeOf(unit);
            for (int i = 0; i < size; i++) {
                if (isWrong(i)) {
                    return WRONG_LOOP;
                }
            }
            return PROVED;
        }

        private void gatherLoops() {
            loops = 0;
            int size = code.sizeOf(unit);
            for (int i = 0; i < size && loops < MOST_INSTRUCTIONS; i++) {
                if (code.numberAt(unit, i) == NEXT) {
                    nexts[loops] = i;
                    loops++;
                }
            }
        }

        private boolean isWrong(int i) {
            switch (code.numberAt(unit, i)) {
                case COUNT:
                    return isWrongCount(i);
                case NEXT:
                    return isWrongNext(i);
                case BACK:
                    return isWrongBack(i);
                case GO:
                case UNLESS:
                    return goesIntoLoop(i, code.aAt(unit, i));
                default:
                    return false;
            }
        }

        private boolean isWrongCount(int i) {
            int counter = code.aAt(unit, i);
            if (code.numberAt(unit, i + 1) != NEXT || code.aAt(unit, i + 1) != counter) {
                return true;
            }
            for (int k = 0; k < loops; k++) {
                if (code.aAt(unit, nexts[k]) == counter && isIn(i, nexts[k])) {
                    return true;
                }
            }
            return false;
        }

        private boolean isWrongNext(int i) {
            if (code.numberAt(unit, i - 1) != COUNT || code.aAt(unit, i - 1) != code.aAt(unit, i)) {
                return true;
            }
            int last = code.bAt(unit, i) - 1;
            if (code.numberAt(unit, last) != BACK || code.aAt(unit, last) != i) {
                return true;
            }
            for (int k = 0; k < loops; k++) {
                if (isIn(i, nexts[k]) && !isIn(last, nexts[k])) {
                    return true;
                }
            }
            return false;
        }

        private boolean isWrongBack(int i) {
            int next = code.aAt(unit, i);
            return code.numberAt(unit, next) != NEXT || code.bAt(unit, next) != i + 1;
        }

        private boolean goesIntoLoop(int i, int target) {
            for (int k = 0; k < loops; k++) {
                boolean there = target == nexts[k] || isIn(target, nexts[k]);
                if (there && !isIn(i, nexts[k])) {
                    return true;
                }
            }
            return false;
        }

        private boolean isIn(int i, int next) {
            return i > next && i < code.bAt(unit, next);
        }
    }

    /** Faults 8 to 10: at each instruction the stack has one depth, whichever way led there. */
    private static final class Depths {
        private static final int TOO_FEW = 8, TOO_DEEP = 9, UNLIKE = 10;
        private static final int[] TAKEN = {0, 0, 1, 1, 2, 0, 1, 2, 1, 3, 0, 1, 0, 0, 0, 0, 0, 0, 0};
        private static final int[] LEFT = {1, 1, 0, 1, 0, 1, 0, 1, 1, 1, 0, 0, 0, 0, 0, 0, 0, 0, 0};

        private final Code code;
        private final int[] depths = new int[MOST_INSTRUCTIONS + 1];

        private Depths(Code code) {
            this.code = code;
        }

        private int faultOf(int unit) {
            int size = code.sizeOf(unit);
            if (size > MOST_INSTRUCTIONS) {
                return TOO_FEW;
            }
            Arrays.fill(depths, NONE);
            depths[0] = 0;
            depths[size] = 0;
            for (int i = 0; i < size; i++) {
                if (depths[i] != NONE) {
                    int fault = faultAt(unit, i, depths[i]);
                    if (fault != PROVED) {
                        return fault;
                    }
                }
            }
            return PROVED;
        }

        private int faultAt(int unit, int i, int depth) {
            int number = code.numberAt(unit, i);
            if (number < 0 || number >= TAKEN.length || number >= LEFT.length || TAKEN[number] > depth) {
                return TOO_FEW;
            }
            int behind = depth - TAKEN[number] + LEFT[number];
            if (behind > MOST_DEPTH) {
                return TOO_DEEP;
            }
            boolean goesOn = number != GO && number != BACK && number != LEAVE;
            if (goesOn && !agrees(i + 1, behind)) {
                return UNLIKE;
            }
            int target = targetOf(unit, i, number);
            return target == NONE || agrees(target, behind) ? PROVED : UNLIKE;
        }

        private int targetOf(int unit, int i, int number) {
            switch (number) {
                case GO:
                case UNLESS:
                case BACK:
                    return code.aAt(unit, i);
                case NEXT:
                    return code.bAt(unit, i);
                case LEAVE:
                    return code.sizeOf(unit);
                default:
                    return NONE;
            }
        }

        private boolean agrees(int target, int depth) {
            if (target < 0 || target >= depths.length) {
                return false;
            }
            if (depths[target] == NONE) {
                depths[target] = depth;
            }
            return depths[target] == depth;
        }
    }

    /**
     * Fault 11: the longest way through a unit. All goes forward but BACK; so one walk finds it, if a
     * NEXT adds all times through its loop but the last one, which is walked itself.
     */
    private static final class Ways {
        private static final int TOO_MANY_STEPS = 11;
        private static final long NEVER = -1L;

        private final Code code;
        private final long[] reached = new long[MOST_INSTRUCTIONS + 1];
        private final long[] rounds = new long[MOST_INSTRUCTIONS];
        private final long[] steps = new long[MOST_UNITS];
        private int unit;
        private int end;

        private Ways(Code code) {
            this.code = code;
        }

        private long stepsOf(int asked) {
            return asked >= 0 && asked < MOST_UNITS ? steps[asked] : 0;
        }

        private int faultOf(int looked) {
            unit = looked;
            int size = code.sizeOf(unit);
            if (unit < 0 || unit >= MOST_UNITS || size > MOST_INSTRUCTIONS) {
                return TOO_MANY_STEPS;
            }
            // From the last loop to the first one, for a loop's measure rests on those that lie in it.
            for (int i = size - 1; i >= 0; i--) {
                if (code.numberAt(unit, i) == NEXT) {
                    int last = code.bAt(unit, i) - 1;
                    walk(i + 1, last);
                    long before = last >= 0 && last < size ? reached[last] : NEVER;
                    rounds[i] = before == NEVER ? NEVER : before + 2;
                }
            }
            walk(0, size);
            steps[unit] = reached[size];
            return steps[unit] > MOST_UNIT_STEPS ? TOO_MANY_STEPS : PROVED;
        }

        /** Ways that leave the part from first to last are not followed. */
        private void walk(int first, int last) {
            if (first < 0 || first > last || last > MOST_INSTRUCTIONS) {
                return;
            }
            end = last;
            Arrays.fill(reached, NEVER);
            reached[first] = 0;
            for (int i = first; i < last; i++) {
                if (reached[i] != NEVER) {
                    goOn(i, reached[i] + 1);
                }
            }
        }

        private void goOn(int i, long taken) {
            switch (code.numberAt(unit, i)) {
                case GO:
                    reach(code.aAt(unit, i), taken);
                    break;
                case UNLESS:
                    reach(code.aAt(unit, i), taken);
                    reach(i + 1, taken);
                    break;
                case NEXT:
                    passLoop(i, taken);
                    break;
                case BACK:
                    // Behind the last time its NEXT is one step more, and goes on right behind the BACK.
                    reach(i + 1, taken + 1);
                    break;
                case LEAVE:
                    reach(code.sizeOf(unit), taken);
                    break;
                case ENTER:
                case CALL:
                    reach(i + 1, taken + stepsOf(code.aAt(unit, i)));
                    break;
                default:
                    reach(i + 1, taken);
            }
        }

        private void passLoop(int next, long taken) {
            long times = code.bAt(unit, next - 1);
            if (times <= 0) {
                reach(code.bAt(unit, next), taken);
                return;
            }
            long round = next >= 0 && next < MOST_INSTRUCTIONS ? rounds[next] : NEVER;
            // A loop that no way comes back through is left in its first time.
            reach(next + 1, round == NEVER ? taken : taken + (times - 1) * round);
        }

        /** Nested loops would outgrow a long: all above the limit is alike. */
        private void reach(int target, long taken) {
            if (target >= 0 && target <= end && target < reached.length && taken > reached[target]) {
                reached[target] = taken > MOST_UNIT_STEPS ? MOST_UNIT_STEPS + 1 : taken;
            }
        }
    }

    /** The cells and the stack. An index is tested here, and so nowhere else. */
    private static final class Memory {
        private final int[] cells = new int[MOST_CELLS];
        private final int[] stack = new int[MOST_UNITS * MOST_DEPTH];
        private int depth;
        private int deepest;

        private void clear() {
            Arrays.fill(cells, 0);
            emptyStack();
        }

        private void emptyStack() {
            depth = 0;
            deepest = 0;
        }

        private int cell(int at) {
            return at >= 0 && at < cells.length ? cells[at] : 0;
        }

        private void change(int at, int v) {
            if (at >= 0 && at < cells.length) {
                cells[at] = v;
            }
        }

        private void push(int v) {
            if (depth >= 0 && depth < stack.length) {
                stack[depth] = v;
                depth++;
                deepest = Math.max(deepest, depth);
            }
        }

        private int pop() {
            if (depth <= 0 || depth > stack.length) {
                return 0;
            }
            depth--;
            return stack[depth];
        }
    }

    /** One scan, from the program's first instruction to its end or a fault. */
    private static final class Runner {
        // A turn is a step or the end of a unit that a step began.
        private static final int MOST_TURNS = 2 * MOST_SCAN_STEPS + 2;

        private final Code code;
        private final Memory memory;
        private final Blocks blocks;
        private final int[] waitingUnits = new int[MOST_UNITS];
        private final int[] waitingNexts = new int[MOST_UNITS];
        private final int[] waitingBases = new int[MOST_UNITS];
        private int waiting;
        private int unit;
        private int next;
        private int base;
        private int steps;
        private int fault;
        private int now;

        private Runner(Code code, Memory memory) {
            this.code = code;
            this.memory = memory;
            blocks = new Blocks(memory);
        }

        private int run(int ticks) {
            now = ticks;
            memory.emptyStack();
            waiting = 0;
            steps = 0;
            fault = 0;
            unit = code.unitCount() - 1;
            next = 0;
            base = 0;
            for (int turn = 0; turn < MOST_TURNS && fault == 0; turn++) {
                if (next < code.sizeOf(unit)) {
                    step();
                } else if (waiting > 0) {
                    goBack();
                } else {
                    break;
                }
            }
            return fault != 0 ? fault : steps;
        }

        private void step() {
            int number = code.numberAt(unit, next);
            int a = code.aAt(unit, next);
            int b = code.bAt(unit, next);
            int c = code.cAt(unit, next);
            steps++;
            next++;
            if (number <= WRITE) {
                move(number, a, b, c);
            } else if (number <= CHOOSE) {
                reckon(number, a);
            } else if (number == BLOCK) {
                blocks.run(a, base + b, now);
            } else {
                go(number, a, b);
            }
        }

        private void move(int number, int a, int b, int c) {
            switch (number) {
                case PUSH:
                    memory.push(a);
                    break;
                case LOAD:
                    memory.push(memory.cell(base + a));
                    break;
                case STORE:
                    memory.change(base + a, memory.pop());
                    break;
                case TAKE:
                    take(a, b, c);
                    break;
                case PUT:
                    put(a, b, c);
                    break;
                case READ:
                    memory.push(memory.cell(code.placeOf(a) + b));
                    break;
                case WRITE:
                    memory.change(code.placeOf(a) + b, memory.pop());
                    break;
                default:
            }
        }

        private void take(int a, int b, int c) {
            long offset = (long) memory.pop() - b;
            if (offset < 0 || offset >= c) {
                fault = INDEX;
                return;
            }
            memory.push(memory.cell(base + a + (int) offset));
        }

        private void put(int a, int b, int c) {
            int v = memory.pop();
            long offset = (long) memory.pop() - b;
            if (offset < 0 || offset >= c) {
                fault = INDEX;
                return;
            }
            memory.change(base + a + (int) offset, v);
        }

        private void reckon(int number, int a) {
            int y = memory.pop();
            if (number == ONE) {
                memory.push(Reckoning.ofOne(a, y));
                return;
            }
            int x = memory.pop();
            if (number == CHOOSE) {
                memory.push(memory.pop() != 0 ? y : x);
            } else if (y == 0 && Reckoning.divides(a)) {
                fault = ZERO;
            } else {
                memory.push(Reckoning.ofTwo(a, x, y));
            }
        }

        private void go(int number, int a, int b) {
            switch (number) {
                case GO:
                case BACK:
                    next = a;
                    break;
                case UNLESS:
                    next = memory.pop() == 0 ? a : next;
                    break;
                case COUNT:
                    memory.change(base + a, b);
                    break;
                case NEXT:
                    countDown(base + a, b);
                    break;
                case ENTER:
                    descend(a, base + b);
                    break;
                case CALL:
                    descend(a, code.placeOf(a));
                    break;
                case LEAVE:
                    next = code.sizeOf(unit);
                    break;
                default:
            }
        }

        private void countDown(int counter, int behind) {
            int left = memory.cell(counter);
            if (left == 0) {
                next = behind;
            } else {
                memory.change(counter, left - 1);
            }
        }

        private void descend(int begun, int first) {
            if (waiting < 0 || waiting >= MOST_UNITS) {
                return;
            }
            waitingUnits[waiting] = unit;
            waitingNexts[waiting] = next;
            waitingBases[waiting] = base;
            waiting++;
            unit = begun;
            next = 0;
            base = first;
        }

        private void goBack() {
            if (waiting <= 0 || waiting > MOST_UNITS) {
                return;
            }
            waiting--;
            unit = waitingUnits[waiting];
            next = waitingNexts[waiting];
            base = waitingBases[waiting];
        }
    }

    /** What TWO and ONE leave. */
    private static final class Reckoning {
        private static final int BITS_16 = 16, BITS_32 = 32, LOWEST_16 = 0xFFFF;

        /** The lowest 16 bits, with sign. */
        private static int narrow(int x) {
            return (short) x;
        }

        private static int flag(boolean holds) {
            return holds ? 1 : 0;
        }

        private static boolean divides(int a) {
            return a == 3 || a == 4 || a == 8 || a == 9;
        }

        private static int ofTwo(int a, int x, int y) {
            if (a <= 4) {
                return narrow(ofArithmetic(a, x, y));
            }
            if (a <= 9) {
                return ofArithmetic(a - 5, x, y);
            }
            return a <= 18 ? ofBitsAndOrder(a, x, y) : ofShifts(a, x, y);
        }

        private static int ofArithmetic(int a, int x, int y) {
            switch (a) {
                case 0:
                    return x + y;
                case 1:
                    return x - y;
                case 2:
                    return x * y;
                case 3:
                    return y == 0 ? 0 : x / y;
                default:
                    return y == 0 ? 0 : x % y;
            }
        }

        private static int ofBitsAndOrder(int a, int x, int y) {
            switch (a) {
                case 10:
                    return x & y;
                case 11:
                    return x | y;
                case 12:
                    return x ^ y;
                case 13:
                    return flag(x == y);
                case 14:
                    return flag(x != y);
                case 15:
                    return flag(x < y);
                case 16:
                    return flag(x > y);
                case 17:
                    return flag(x <= y);
                default:
                    return flag(x >= y);
            }
        }

        private static int ofShifts(int a, int x, int y) {
            boolean within16 = y >= 0 && y < BITS_16;
            boolean within32 = y >= 0 && y < BITS_32;
            switch (a) {
                case 19:
                    return within16 ? narrow(x << y) : 0;
                case 20:
                    return within16 ? narrow((x & LOWEST_16) >>> y) : 0;
                case 21:
                    return within32 ? x << y : 0;
                case 22:
                    return within32 ? x >>> y : 0;
                case 23:
                    return Math.min(x, y);
                default:
                    return Math.max(x, y);
            }
        }

        private static int ofOne(int a, int x) {
            switch (a) {
                case 0:
                    return narrow(-x);
                case 1:
                    return -x;
                case 2:
                    return flag(x == 0);
                case 3:
                    return ~x;
                case 4:
                    return narrow(x < 0 ? -x : x);
                case 5:
                    return x < 0 ? -x : x;
                case 6:
                    return narrow(x);
                default:
                    return flag(x != 0);
            }
        }
    }

    /** The standard blocks; each keeps all that it remembers in its own cells. */
    private static final class Blocks {
        private static final int ON_DELAY = 0, OFF_DELAY = 1, PULSE = 2, UP = 3, DOWN = 4;
        private static final int RISE = 5, FALL = 6, SET_FIRST = 7;
        private static final int PT = 1, TIMER_Q = 2, ET = 3, TIMER_M = 4, TIMER_L = 5;
        private static final int PV = 2, COUNTER_Q = 3, CV = 4, COUNTER_M = 5;
        private static final int EDGE_Q = 1, EDGE_M = 2, LATCH_Q = 2;
        private static final int MOST_COUNT = 32_767, LEAST_COUNT = -32_768;

        private final Memory memory;

        private Blocks(Memory memory) {
            this.memory = memory;
        }

        private void run(int kind, int at, int now) {
            boolean first = memory.cell(at) != 0;
            if (kind <= PULSE) {
                runTimer(kind, at, first, now);
                putFlag(at + TIMER_M, first);
                memory.change(at + TIMER_L, now);
            } else if (kind <= DOWN) {
                runCounter(kind, at, first && !isSet(at + COUNTER_M));
                putFlag(at + COUNTER_M, first);
            } else if (kind <= FALL) {
                boolean was = isSet(at + EDGE_M);
                putFlag(at + EDGE_Q, kind == RISE ? first && !was : !first && was);
                putFlag(at + EDGE_M, first);
            } else {
                runLatch(kind, at, first);
            }
        }

        private void runTimer(int kind, int at, boolean in, int now) {
            int span = Math.max(memory.cell(at + PT), 0);
            boolean was = isSet(at + TIMER_M);
            long sum = (long) memory.cell(at + ET) + now - memory.cell(at + TIMER_L);
            int grown = (int) Math.min(span, sum);
            if (kind == ON_DELAY) {
                int time = in && was ? grown : 0;
                memory.change(at + ET, time);
                putFlag(at + TIMER_Q, in && time >= span);
            } else if (kind == OFF_DELAY) {
                runOffDelay(at, in, was, span, grown);
            } else {
                runPulse(at, in, was, span, grown);
            }
        }

        private void runOffDelay(int at, boolean in, boolean was, int span, int grown) {
            if (in || was) {
                memory.change(at + ET, 0);
                putFlag(at + TIMER_Q, in || span > 0);
            } else if (isSet(at + TIMER_Q)) {
                memory.change(at + ET, grown);
                putFlag(at + TIMER_Q, grown < span);
            }
        }

        private void runPulse(int at, boolean in, boolean was, int span, int grown) {
            if (isSet(at + TIMER_Q)) {
                memory.change(at + ET, grown);
                if (grown >= span) {
                    memory.change(at + TIMER_Q, 0);
                }
            }
            if (isSet(at + TIMER_Q)) {
                return;
            }
            if (in && !was) {
                memory.change(at + ET, 0);
                putFlag(at + TIMER_Q, span > 0);
            } else if (!in) {
                memory.change(at + ET, 0);
            }
        }

        private void runCounter(int kind, int at, boolean rises) {
            boolean second = isSet(at + 1);
            int limit = memory.cell(at + PV);
            int value = memory.cell(at + CV);
            if (kind == UP) {
                value = second ? 0 : rises && value < MOST_COUNT ? value + 1 : value;
                putFlag(at + COUNTER_Q, value >= limit);
            } else {
                value = second ? limit : rises && value > LEAST_COUNT ? value - 1 : value;
                putFlag(at + COUNTER_Q, value <= 0);
            }
            memory.change(at + CV, value);
        }

        private void runLatch(int kind, int at, boolean set) {
            boolean reset = isSet(at + 1);
            boolean was = isSet(at + LATCH_Q);
            putFlag(at + LATCH_Q, kind == SET_FIRST ? set || !reset && was : !reset && (set || was));
        }

        private boolean isSet(int at) {
            return memory.cell(at) != 0;
        }

        private void putFlag(int at, boolean holds) {
            memory.change(at, holds ? 1 : 0);
        }
    }
}
