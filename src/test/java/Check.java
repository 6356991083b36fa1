/** Counts answers that are not as due, and ends a test. */
final class Check {
    private final String test;
    private int asked;
    private int wrong;

    Check(String test) {
        this.test = test;
    }

    void due(String what, long want, long got) {
        asked++;
        if (want != got) {
            wrong++;
            if (wrong <= 20) {
                System.out.println(test + ": " + what + " answered " + got + ", due is " + want);
            }
        }
    }

    void due(String what, boolean want, boolean got) {
        due(what, want ? 1 : 0, got ? 1 : 0);
    }

    int wrong() {
        return wrong;
    }

    void end() {
        System.out.println(test + ": " + (asked - wrong) + " of " + asked + " answers as due");
        if (wrong != 0) {
            System.exit(1);
        }
    }
}
