/** The whole face a second time, over an Oracle. */
final class SecondMachine {
    private Oracle oracle = new Oracle(64);
    private int instructions;
    private boolean running;
    private int scans;
    private int faults;

    private void stop() {
        running = false;
        scans = 0;
        faults = 0;
        oracle.now = 0;
        oracle.ran = 0;
        oracle.deepest = 0;
    }

    int begin(int t) {
        if (t <= 0 || t >= 4097) {
            return -1;
        }
        oracle = new Oracle(t);
        instructions = 0;
        stop();
        return t;
    }

    int unit(int frame, int place) {
        if (oracle.units.size() == 16 || frame < 0 || frame > 4096 || place < -1 || place > 4095) {
            return -1;
        }
        stop();
        oracle.units.add(new Oracle.Unit(frame, place));
        return oracle.units.size() - 1;
    }

    int add(int number, int a, int b, int c) {
        if (oracle.units.isEmpty() || instructions == 256) {
            return -1;
        }
        stop();
        instructions++;
        Oracle.Unit last = oracle.units.get(oracle.units.size() - 1);
        last.code.add(new int[] {number, a, b, c});
        return last.code.size() - 1;
    }

    int start() {
        stop();
        if (oracle.units.isEmpty()) {
            return 13;
        }
        int fault = oracle.start();
        running = fault == 0;
        return fault;
    }

    int scan(int ticks) {
        if (!running || ticks < 0 || ticks > 100_000_000 || (long) oracle.now + ticks > 2_000_000_000L) {
            return -1;
        }
        int answer = oracle.scan(ticks);
        scans++;
        faults += answer < 0 ? 1 : 0;
        return answer;
    }

    private boolean has(int cell) {
        return running && 0 <= cell && cell < oracle.total;
    }

    int set(int cell, int v) {
        if (!has(cell)) {
            return -1;
        }
        int was = oracle.cells[cell];
        oracle.cells[cell] = v;
        return was;
    }

    int get(int cell) {
        return has(cell) ? oracle.cells[cell] : -1;
    }

    int count(int which) {
        return switch (which) {
            case 0 -> oracle.ran;
            case 1 -> scans;
            case 2 -> faults;
            case 3 -> running ? oracle.steps.get(oracle.units.size() - 1).intValue() : 0;
            case 4 -> oracle.now;
            case 5 -> oracle.deepest;
            default -> -1;
        };
    }
}
