/**
 * Boundary cases, each a test of its own. A case has a name: where the document tells it (the promise, or the
 * part of the terms), and which case it is.
 */
final class Edges {
    private String name = "";
    private int answers;
    private boolean broken;
    private int held;
    private int failed;

    void edge(String where, String which, Runnable test) {
        name = where + " | " + which;
        answers = 0;
        broken = false;
        try {
            test.run();
        } catch (RuntimeException e) {
            fail("threw " + e);
        }
        if (answers == 0) {
            fail("asked nothing");
        }
        if (broken) {
            failed++;
        } else {
            held++;
        }
    }

    void is(long got, long due) {
        answers++;
        if (got != due) {
            fail("answer " + answers + " is " + got + ", due is " + due);
        }
    }

    void noSuchElement(Check.Call call) {
        answers++;
        String got;
        try {
            got = "is " + call.answer();
        } catch (RuntimeException e) {
            got = "throws " + e.getClass().getSimpleName();
        }
        if (!got.equals("throws " + Check.NO_SUCH)) {
            fail("answer " + answers + " " + got + ", due is " + Check.NO_SUCH);
        }
    }

    private void fail(String how) {
        broken = true;
        System.out.println(name + ": " + how);
    }

    void end() {
        System.out.println(held + " boundary cases hold, " + failed + " do not");
        if (failed > 0 || held == 0) {
            System.exit(1);
        }
    }
}
