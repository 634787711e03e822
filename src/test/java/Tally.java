/** Counts and prints the answers of a test that are not those that are due. */
final class Tally {
    private int asked = 0;
    private int wrong = 0;

    void due(String what, int got, int want) {
        dueText(what, String.valueOf(got), String.valueOf(want));
    }

    void dueText(String what, String got, String want) {
        asked++;
        if (!got.equals(want)) {
            wrong++;
            System.out.println(what + ": got " + got + ", due is " + want);
        }
    }

    /** Ends the program with 1 if there was a wrong answer. */
    void end() {
        System.out.println(wrong == 0 ? "all " + asked + " answers are as due" : wrong + " answers are not as due");
        if (wrong != 0) {
            System.exit(1);
        }
    }
}
