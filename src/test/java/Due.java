/** Counts the answers that are not as due, prints each, and ends the test with exit code 1 if there was one. */
final class Due {
    private int looked = 0;
    private int wrong = 0;

    void is(String call, long got, long want) {
        looked++;
        if (got != want) {
            wrong++;
            System.out.println(call + " answered " + got + ", due is " + want);
        }
    }

    void is(String call, boolean got, boolean want) {
        is(call, got ? 1L : 0L, want ? 1L : 0L);
    }

    boolean anyWrong() {
        return wrong != 0;
    }

    void end() {
        System.out.println(wrong + " of " + looked + " answers are not as due");
        if (wrong != 0 || looked == 0) {
            System.exit(1);
        }
    }
}
