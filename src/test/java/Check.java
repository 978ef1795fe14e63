/** Counts the answers of one test, prints the wrong ones, and ends the test. */
final class Check {
    private final String test;
    private int right;
    private int wrong;

    Check(String test) {
        this.test = test;
    }

    void same(String what, long got, long want) {
        if (got == want) {
            right++;
        } else {
            wrong++;
            System.out.println(test + ": " + what + " answered " + got + ", due is " + want);
        }
    }

    void end() {
        System.out.println(test + ": " + right + " answers right, " + wrong + " wrong");
        if (wrong != 0 || right == 0) {
            System.exit(1);
        }
    }
}
