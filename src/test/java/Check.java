/** Counts answers that are not as due, and ends a test. */
final class Check {
    private final String test;
    private String sentence = "";
    private int sentences;
    private int asked;
    private int wrong;

    Check(String test) {
        this.test = test;
    }

    /** One sentence of the document (where it stands, its words) and the test of its own that holds it. */
    void sentence(String where, String words, Runnable test) {
        sentence = "[" + where + ": " + words + "] ";
        sentences++;
        int before = asked;
        try {
            test.run();
        } catch (RuntimeException e) {
            due(e + " thrown", 0, 1);
        }
        due("asked", true, asked > before);
        sentence = "";
    }

    void due(String what, long want, long got) {
        asked++;
        if (want != got) {
            wrong++;
            if (wrong <= 20) {
                System.out.println(test + ": " + sentence + what + " answered " + got + ", due is " + want);
            }
        }
    }

    void due(String what, boolean want, boolean got) {
        due(what, want ? 1 : 0, got ? 1 : 0);
    }

    void due(String what, String want, String got) {
        boolean same = want.equals(got);
        due(same ? what : what + " (" + got + " for " + want + ")", true, same);
    }

    int wrong() {
        return wrong;
    }

    void end() {
        String held = sentences == 0 ? "" : sentences + " sentences, ";
        System.out.println(test + ": " + held + (asked - wrong) + " of " + asked + " answers as due");
        if (wrong != 0) {
            System.exit(1);
        }
    }
}
