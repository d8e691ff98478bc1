/** Compares answers with those that are due, and ends a test. */
final class Check {
    private final String name;
    private int wrong = 0;
    private int right = 0;

    Check(String name) {
        this.name = name;
    }

    void due(String call, long got, long want) {
        if (got == want) {
            right++;
            return;
        }
        wrong++;
        System.out.println(name + ": " + call + " answered " + got + ", due is " + want);
    }

    void isTrue(String what, boolean holds) {
        due(what, holds ? 1 : 0, 1);
    }

    /** Ends the program with exit code 1 if an answer was not the one that is due. */
    void end() {
        System.out.println(name + ": " + right + " answers as due, " + wrong + " not");
        if (wrong != 0 || right == 0) System.exit(1);
    }
}
