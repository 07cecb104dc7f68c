/** Compares answers with those that are due; ends the test's run with 1 if one is not. */
final class Check {
    private final String test;
    private int right;
    private int wrong;

    Check(String test) {
        this.test = test;
    }

    void due(String call, long got, long want) {
        if (got == want) {
            right++;
            return;
        }
        wrong++;
        if (wrong <= 50) System.out.println(test + ": " + call + " answered " + got + ", due is " + want);
    }

    void due(String call, boolean holds) {
        due(call, holds ? 1 : 0, 1);
    }

    void end() {
        System.out.println(test + ": " + right + " answers as due, " + wrong + " not");
        if (wrong > 0) System.exit(1);
    }
}
