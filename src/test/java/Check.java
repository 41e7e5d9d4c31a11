/** Counts answers that are as due, and tells those that are not. */
final class Check {
    interface Call {
        long answer();
    }

    private final String name;
    private int right;
    private int wrong;

    Check(String name) {
        this.name = name;
    }

    void due(String call, long got, long want) {
        tell(got == want, call, Long.toString(got), Long.toString(want));
    }

    void due(String call, boolean got, boolean want) {
        tell(got == want, call, Boolean.toString(got), Boolean.toString(want));
    }

    /** What is thrown must be of this very class, and not of one below it. */
    void thrown(String call, Class<? extends RuntimeException> want, Call made) {
        String got = outcome(made);
        tell(got.equals(want.getSimpleName()), call, got, want.getSimpleName());
    }

    void same(String call, String got, String want) {
        tell(got.equals(want), call, got, want);
    }

    static String outcome(Call made) {
        try {
            return Long.toString(made.answer());
        } catch (RuntimeException e) {
            return e.getClass().getSimpleName();
        }
    }

    void finish() {
        System.out.println(name + ": " + right + " answers as due, " + wrong + " not");
        if (wrong != 0) {
            System.exit(1);
        }
    }

    private void tell(boolean isRight, String call, String got, String want) {
        if (isRight) {
            right++;
            return;
        }
        wrong++;
        // The first few are enough to find the fault.
        if (wrong <= 20) {
            System.out.println(name + ": " + call + " answered " + got + ", due is " + want);
        }
    }
}
