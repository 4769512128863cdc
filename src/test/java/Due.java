/** Compares answers with those that are due, and tells which were not. */
final class Due {
    private static final int MOST_TOLD = 40;

    private int wrong;
    private long compared;

    void is(String call, int answer, int due) {
        compared++;
        if (answer != due) {
            wrong++;
            if (wrong <= MOST_TOLD) {
                System.out.println(call + " answered " + answer + ", due is " + due);
            }
        }
    }

    boolean isAllRight() {
        return wrong == 0;
    }

    /** Ends the test with exit code 1 if an answer was wrong. */
    void end() {
        System.out.println("   " + compared + " answers, " + wrong + " wrong");
        if (wrong > 0 || compared == 0) {
            System.exit(1);
        }
    }
}
