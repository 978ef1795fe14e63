import java.util.ArrayList;
import java.util.List;
import java.util.Random;

/** Writes code for an Oracle: mostly right, with loops that are left in many ways, and sometimes spoilt. */
final class RandomCode {
    private static final int[] EDGES = {0, 0, 1, 1, 2, 3, 7, -1, -2, 15, 16, 31, 32, 32767, 32768, -32768, -32769,
        65535, 65536, 98304, Integer.MAX_VALUE, Integer.MIN_VALUE, Integer.MIN_VALUE + 1};
    private static final int COUNTERS = 3;

    private final Random random;
    private Oracle oracle;
    private Oracle.Unit unit;
    private int plain;
    private int level;
    private int budget;
    private final List<List<int[]>> exits = new ArrayList<>();

    RandomCode(Random random) {
        this.random = random;
    }

    int edge() {
        return random.nextInt(3) == 0 ? random.nextInt() : EDGES[random.nextInt(EDGES.length)];
    }

    Oracle write() {
        int frame = 16 + random.nextInt(10);
        int helper = 8 + random.nextInt(6);
        oracle = new Oracle(frame + helper + random.nextInt(4));
        if (random.nextInt(4) != 0) {
            int nudge = random.nextInt(20) == 0 ? random.nextInt(7) - 3 : 0;
            writeUnit(helper, frame + random.nextInt(oracle.total - frame - helper + 1) + nudge, 12);
        }
        if (random.nextInt(3) != 0) {
            writeUnit(4 + random.nextInt(5), -1, 15);
        }
        if (random.nextInt(3) == 0) {
            writeUnit(12, -1, 15);
        }
        writeUnit(frame, 0, 60);
        for (int left = random.nextInt(3); left > 0; left--) {
            spoil();
        }
        return oracle;
    }

    private void writeUnit(int frame, int place, int most) {
        unit = new Oracle.Unit(frame, place);
        oracle.units.add(unit);
        plain = frame - COUNTERS;
        level = 0;
        budget = most;
        while (budget > 0) {
            statement();
        }
    }

    private int[] emit(int number, int a, int b, int c) {
        int[] it = {number, a, b, c};
        unit.code.add(it);
        budget--;
        return it;
    }

    private int here() {
        return unit.code.size();
    }

    private void statement() {
        switch (random.nextInt(9)) {
            case 0, 1 -> assign();
            case 2 -> choice();
            case 3, 4 -> loop();
            case 5 -> begin();
            case 6 -> block();
            case 7 -> exit();
            default -> {
                if (random.nextInt(6) == 0) {
                    emit(18, 0, 0, 0);
                } else if (random.nextInt(20) == 0) {
                    heap(62 + random.nextInt(4));
                } else {
                    assign();
                }
            }
        }
    }

    private void assign() {
        int kind = random.nextInt(5);
        if (kind == 0) {
            int many = 1 + random.nextInt(plain);
            int low = random.nextInt(5) == 0 ? edge() : random.nextInt(3);
            emit(0, low + random.nextInt(many + (random.nextInt(6) == 0 ? 1 : 0)), 0, 0);
            value(2);
            emit(4, random.nextInt(plain - many + 1), low, many);
            return;
        }
        value(3);
        int other = random.nextInt(oracle.units.size());
        if (kind == 1 && oracle.units.get(other) != unit && oracle.units.get(other).place >= 0) {
            emit(6, other, random.nextInt(oracle.units.get(other).frame - COUNTERS), 0);
        } else {
            emit(2, random.nextInt(plain), 0, 0);
        }
    }

    private void value(int deep) {
        int kind = deep == 0 ? random.nextInt(2) : random.nextInt(7);
        switch (kind) {
            case 0 -> emit(0, edge(), 0, 0);
            case 1 -> emit(1, random.nextInt(plain), 0, 0);
            case 2, 3 -> {
                value(deep - 1);
                value(deep - 1);
                emit(7, random.nextInt(25), 0, 0);
            }
            case 4 -> {
                value(deep - 1);
                emit(8, random.nextInt(8), 0, 0);
            }
            case 5 -> {
                value(0);
                value(0);
                value(deep - 1);
                emit(9, 0, 0, 0);
            }
            default -> {
                int other = random.nextInt(oracle.units.size());
                if (oracle.units.get(other) != unit && oracle.units.get(other).place >= 0) {
                    emit(5, other, random.nextInt(oracle.units.get(other).frame - COUNTERS), 0);
                } else {
                    int many = 1 + random.nextInt(plain);
                    emit(0, random.nextInt(many), 0, 0);
                    emit(3, random.nextInt(plain - many + 1), 0, many);
                }
            }
        }
        if (random.nextInt(12) == 0 && level < COUNTERS) {
            // A unit that is begun, or a loop, over a stack that is not empty.
            if (random.nextBoolean()) {
                begin();
            } else {
                loop();
            }
        }
    }

    private void heap(int many) {
        for (int k = 0; k < many; k++) {
            emit(0, k, 0, 0);
        }
        for (int k = 1; k < many; k++) {
            emit(7, 5, 0, 0);
        }
        emit(2, 0, 0, 0);
    }

    private void choice() {
        value(1);
        int[] unless = emit(11, 0, 0, 0);
        statementIfAny();
        if (random.nextBoolean()) {
            int[] go = emit(10, 0, 0, 0);
            unless[1] = here();
            statementIfAny();
            go[1] = here();
            if (go[1] == unless[1]) {
                emit(0, 1, 0, 0);
                emit(2, 0, 0, 0);
            }
        } else {
            unless[1] = here();
        }
    }

    private void statementIfAny() {
        if (budget > 0) {
            statement();
        }
    }

    private void loop() {
        if (level >= COUNTERS) {
            return;
        }
        int counter = plain + level;
        level++;
        exits.add(new ArrayList<>());
        emit(12, counter, random.nextInt(4), 0);
        int start = here();
        int[] next = emit(13, counter, 0, 0);
        int depth = exits.size();
        for (int many = random.nextInt(3); many > 0; many--) {
            statementIfAny();
        }
        emit(14, start, 0, 0);
        next[2] = here();
        for (int[] exit : exits.remove(depth - 1)) {
            exit[1] = here();
        }
        level--;
    }

    private void exit() {
        if (exits.isEmpty()) {
            return;
        }
        List<int[]> some = exits.get(random.nextInt(exits.size()));
        if (random.nextInt(4) == 0) {
            some.add(emit(10, 0, 0, 0));
        } else {
            value(1);
            some.add(emit(11, 0, 0, 0));
        }
    }

    private void begin() {
        int other = random.nextInt(oracle.units.size());
        Oracle.Unit begun = oracle.units.get(other);
        if (begun == unit) {
            return;
        }
        if (begun.place >= 0) {
            emit(16, other, 0, 0);
        } else if (begun.frame <= plain) {
            emit(15, other, random.nextInt(plain - begun.frame + 1), 0);
        }
    }

    private void block() {
        int kind = random.nextInt(9);
        int cells = kind <= 4 ? 6 : 3;
        if (cells <= plain) {
            emit(17, kind, random.nextInt(plain - cells + 1), 0);
        }
    }

    private void spoil() {
        List<int[]> code = oracle.units.get(random.nextInt(oracle.units.size())).code;
        if (code.isEmpty()) {
            return;
        }
        int at = random.nextInt(code.size());
        int[] it = code.get(at);
        int which = random.nextInt(4);
        switch (random.nextInt(4)) {
            case 0 -> it[which] += random.nextBoolean() ? 1 : -1;
            case 1 -> it[which] = random.nextInt(code.size() + 2) - 1;
            case 2 -> it[which] = edge();
            default -> {
                if (random.nextBoolean()) {
                    code.remove(at);
                } else {
                    code.add(random.nextInt(code.size() + 1), it.clone());
                }
            }
        }
        for (int[] each : code) {
            // The oracle goes every time through a loop: more of them would take it too long.
            if (each[0] == 12 && each[2] > 5 && each[2] <= 1_000_000) {
                each[2] = 5;
            }
        }
    }
}
