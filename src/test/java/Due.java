/** Compares answers with those that are due, and counts what is wrong. */
final class Due {
    /** A call that may throw. */
    interface Call {
        Object answer();
    }

    private final boolean[] promises = new boolean[31];
    private int asked;
    private int wrong;

    /** An answer to a call that throws nothing. */
    void is(int promise, String name, Call call, Object want) {
        note(promise);
        String got;
        try {
            got = String.valueOf(call.answer());
        } catch (RuntimeException e) {
            got = "throws " + e.getClass().getSimpleName();
        }
        if (!got.equals(String.valueOf(want))) {
            tell("promise " + promise + ": " + name + " answered " + got + ", due is " + want);
        }
    }

    /** A call that throws just this exception, and behind which all is as it was. */
    void refused(int promise, PactClocks desk, String name, Call call, Class<?> want) {
        note(promise);
        String before = lookOf(desk);
        String got;
        try {
            got = "answered " + call.answer();
        } catch (RuntimeException e) {
            got = e.getClass() == want ? "" : "throws " + e.getClass().getSimpleName();
        }
        if (!got.isEmpty()) {
            tell("promise " + promise + ": " + name + " " + got + ", due is " + want.getSimpleName());
        }
        if (!before.equals(lookOf(desk))) {
            tell("promise " + promise + ": " + name + " has changed something: " + before
                    + " became " + lookOf(desk));
        }
    }

    /** A call behind which all is as it was. */
    void changesNothing(int promise, PactClocks desk, String name, Call call) {
        note(promise);
        String before = lookOf(desk);
        call.answer();
        if (!before.equals(lookOf(desk))) {
            tell("promise " + promise + ": " + name + " has changed something: " + before
                    + " became " + lookOf(desk));
        }
    }

    /** Something that holds or does not. */
    void holds(String what, boolean so) {
        asked++;
        if (!so) {
            tell(what);
        }
    }

    /** How a desk looks: one call alone, so that a desk is asked no more than 512 in a test. */
    static String lookOf(PactClocks desk) {
        return "digest " + desk.digest();
    }

    /** Tells what was found and ends the program, with 1 if something was wrong. */
    void end(int first, int last) {
        for (int promise = first; promise <= last; promise++) {
            if (!promises[promise]) {
                tell("promise " + promise + " has not been tested");
            }
        }
        System.out.println(asked + " answers, " + wrong + " wrong");
        if (wrong != 0) {
            System.exit(1);
        }
    }

    private void note(int promise) {
        promises[promise] = true;
        asked++;
    }

    private void tell(String what) {
        wrong++;
        if (wrong <= 40) {
            System.out.println(what);
        }
    }
}
