/** Counts the answers that are not as due, and ends the test with them. */
final class Check {
    private final String test;
    private int asked = 0;
    private int wrong = 0;

    Check(String test) {
        this.test = test;
    }

    void due(String call, long got, long want) {
        asked++;
        if (got != want) {
            wrong++;
            System.out.println(test + ": " + call + " answered " + got + ", due is " + want);
        }
    }

    /** For what is seen of an object in many calls. */
    void same(String what, String got, String want) {
        asked++;
        if (!got.equals(want)) {
            wrong++;
            System.out.println(test + ": " + what + ": seen is " + got + ", due is " + want);
        }
    }

    /** A test that asked nothing has not tested anything. */
    boolean holds() {
        return wrong == 0 && asked > 0;
    }

    void end() {
        System.out.println(test + ": " + asked + " answers, " + wrong + " wrong");
        if (!holds()) {
            System.exit(1);
        }
    }
}
