/** Counts answers that are due and those that are not. */
final class Check {
    interface Call {
        long answer();
    }

    static final String NO_SUCH = "NoSuchElementException";

    private int passed;
    private int failed;

    void same(String what, long got, long due) {
        if (got == due) {
            passed++;
        } else {
            failed++;
            if (failed < 30) {
                System.out.println(what + " answered " + got + ", due is " + due);
            }
        }
    }

    void refused(String what, Call call) {
        String got;
        try {
            got = "" + call.answer();
        } catch (RuntimeException e) {
            got = e.getClass().getSimpleName();
        }
        if (got.equals(NO_SUCH)) {
            passed++;
        } else {
            failed++;
            System.out.println(what + " answered " + got + ", due is " + NO_SUCH);
        }
    }

    boolean anyFailed() {
        return failed > 0;
    }

    void end() {
        System.out.println(passed + " answers as due, " + failed + " not");
        if (failed > 0 || passed == 0) {
            System.exit(1);
        }
    }
}
