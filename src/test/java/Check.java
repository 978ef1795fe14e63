/** Counts the answers of one test, prints the wrong ones, and ends the test. */
final class Check {
    private final String test;
    private String sentence = "";
    private int sentences;
    private int before;
    private int right;
    private int wrong;

    Check(String test) {
        this.test = test;
    }

    /** The document's words that the next answers are about; the ones before must have had an answer. */
    void about(String words) {
        closeSentence();
        sentence = words;
        sentences++;
        before = right + wrong;
    }

    private void closeSentence() {
        if (!sentence.isEmpty() && right + wrong == before) {
            wrong++;
            System.out.println(test + ": nothing was asked about \"" + sentence + "\"");
        }
    }

    void same(String what, long got, long want) {
        if (got == want) {
            right++;
        } else {
            wrong++;
            String said = sentence.isEmpty() ? "" : " (\"" + sentence + "\")";
            System.out.println(test + ": " + what + " answered " + got + ", due is " + want + said);
        }
    }

    void end() {
        closeSentence();
        String told = sentences == 0 ? "" : sentences + " sentences, ";
        System.out.println(test + ": " + told + right + " answers right, " + wrong + " wrong");
        if (wrong != 0 || right == 0) {
            System.exit(1);
        }
    }
}
