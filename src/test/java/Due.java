import java.util.Arrays;

/** Compares answers with those that are due, and counts what is wrong. */
final class Due {
    /** A call that may throw. */
    interface Call {
        Object answer();
    }

    private final boolean[] promises = new boolean[31];
    private int asked;
    private int wrong;

    /** An answer to a call that throws nothing. */
    void is(int promise, String name, Call call, Object want) {
        note(promise);
        String got;
        try {
            got = String.valueOf(call.answer());
        } catch (RuntimeException e) {
            got = "throws " + e.getClass().getSimpleName();
        }
        if (!got.equals(String.valueOf(want))) {
            tell("promise " + promise + ": " + name + " answered " + got + ", due is " + want);
        }
    }

    /** A call that throws just this exception, and behind which all is as it was. */
    void refused(int promise, PactClocks desk, String name, Call call, Class<?> want) {
        note(promise);
        String before = lookOf(desk);
        String got;
        try {
            got = "answered " + call.answer();
        } catch (RuntimeException e) {
            got = e.getClass() == want ? "" : "throws " + e.getClass().getSimpleName();
        }
        if (!got.isEmpty()) {
            tell("promise " + promise + ": " + name + " " + got + ", due is " + want.getSimpleName());
        }
        if (!before.equals(lookOf(desk))) {
            tell("promise " + promise + ": " + name + " has changed something: " + before
                    + " became " + lookOf(desk));
        }
    }

    /** A call behind which all is as it was. */
    void changesNothing(int promise, PactClocks desk, String name, Call call) {
        note(promise);
        String before = lookOf(desk);
        call.answer();
        if (!before.equals(lookOf(desk))) {
            tell("promise " + promise + ": " + name + " has changed something: " + before
                    + " became " + lookOf(desk));
        }
    }

    /** Something that holds or does not. */
    void holds(String what, boolean so) {
        asked++;
        if (!so) {
            tell(what);
        }
    }

    /** All that there is to see of a desk, but for its digest and for what would be. */
    static String lookOf(PactClocks desk) {
        StringBuilder look = new StringBuilder();
        look.append("day ").append(desk.day()).append(" taken ").append(desk.penalties());
        look.append(" weakest ").append(desk.weakest()).append(" purses");
        for (int party = 0; party < desk.parties(); party++) {
            look.append(' ').append(desk.purseOf(party));
        }
        for (int duty = 0; duty < desk.duties(); duty++) {
            int[] row = {desk.stateOf(duty), desk.daysLeft(duty), desk.stoppedFor(duty),
                desk.priceOf(duty), desk.hanging(duty), desk.depthOf(duty),
                desk.textLength(duty), desk.sealOf(duty)};
            look.append(" duty ").append(duty).append(' ').append(Arrays.toString(row));
        }
        return look.toString();
    }

    /** Tells what was found and ends the program, with 1 if something was wrong. */
    void end(int first, int last) {
        for (int promise = first; promise <= last; promise++) {
            if (!promises[promise]) {
                tell("promise " + promise + " has not been tested");
            }
        }
        System.out.println(asked + " answers, " + wrong + " wrong");
        if (wrong != 0) {
            System.exit(1);
        }
    }

    private void note(int promise) {
        promises[promise] = true;
        asked++;
    }

    private void tell(String what) {
        wrong++;
        if (wrong <= 40) {
            System.out.println(what);
        }
    }
}
