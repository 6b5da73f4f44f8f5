/** Counts the answers that are not as due, prints each, and ends the test with exit code 1 if there was one. */
final class Due {
    private int looked = 0;
    private int wrong = 0;
    private int sentences = 0;

    void is(String call, long got, long want) {
        looked++;
        if (got != want) {
            wrong++;
            System.out.println(call + " answered " + got + ", due is " + want);
        }
    }

    void is(String call, boolean got, boolean want) {
        is(call, got ? 1L : 0L, want ? 1L : 0L);
    }

    /** Runs the test of one sentence. A throw is a wrong answer of that sentence alone: the next ones still run. */
    void sentence(String text, Runnable test) {
        int lookedBefore = looked;
        int wrongBefore = wrong;
        sentences++;
        try {
            test.run();
        } catch (RuntimeException thrown) {
            wrong++;
            System.out.println("thrown: " + thrown);
        }
        if (looked == lookedBefore && wrong == wrongBefore) {
            wrong++;
            System.out.println("the test looked at no answer");
        }
        if (wrong != wrongBefore) {
            System.out.println("DOES NOT HOLD: " + text);
        }
    }

    boolean anyWrong() {
        return wrong != 0;
    }

    void end() {
        String over = sentences == 0 ? "" : " in " + sentences + " sentences";
        System.out.println(wrong + " of " + looked + " answers" + over + " are not as due");
        if (wrong != 0 || looked == 0) {
            System.exit(1);
        }
    }
}
