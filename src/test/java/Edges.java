import java.util.Arrays;

/**
 * Tests sentences of the document, one after the other. Each refused call is made on a desk of its
 * own, so that none is asked more than the 512 calls for which the document answers.
 */
final class Edges {
    static final Class<?> INDEX = IndexOutOfBoundsException.class;
    static final Class<?> ARGUMENT = IllegalArgumentException.class;
    static final Class<?> STATE = IllegalStateException.class;

    /** Makes a desk, each time another one, by the same calls. */
    interface Make {
        PactClocks desk();
    }

    /** Asks a desk. */
    interface Ask {
        Object of(PactClocks desk);
    }

    /** Asks a desk by a number. */
    interface AskBy {
        Object of(PactClocks desk, int number);
    }

    private String sentence = "";
    private int ofSentence = 1;
    private int sentences;
    private int asked;
    private int wrong;

    /** The sentence that the next answers test. */
    void of(String text) {
        endSentence();
        sentence = text;
        ofSentence = 0;
        sentences++;
    }

    void is(String name, Object got, Object want) {
        note();
        if (!String.valueOf(got).equals(String.valueOf(want))) {
            tell(name + " answered " + got + ", due is " + want);
        }
    }

    /** A call that throws just this exception; a twin that was not asked so is no other behind it. */
    void refuses(Class<?> want, String name, Make make, Ask ask) {
        note();
        PactClocks desk = make.desk();
        PactClocks twin = make.desk();
        String got;
        try {
            got = "answered " + ask.of(desk);
        } catch (RuntimeException e) {
            got = e.getClass() == want ? "" : "throws " + e.getClass().getSimpleName();
        }
        if (!got.isEmpty()) {
            tell(name + " " + got + ", due is " + want.getSimpleName());
        }
        is("all that there is behind " + name, lookOf(desk), lookOf(twin));
        is("pass(60) behind " + name, desk.pass(60), twin.pass(60));
        is("digest() behind that", desk.digest(), twin.digest());
    }

    /** A call that changes nothing: a twin that was not asked so is no other behind it. */
    void onlyLooks(String name, Make make, Ask ask) {
        PactClocks desk = make.desk();
        PactClocks twin = make.desk();
        Object once = ask.of(desk);
        is(name + " once more", ask.of(desk), once);
        is("all that there is behind " + name, lookOf(desk), lookOf(twin));
        is("pass(60) behind " + name, desk.pass(60), twin.pass(60));
        is("digest() behind that", desk.digest(), twin.digest());
    }

    /** A number that is taken from least to most alone; the answers to these two are told. */
    void range(String name, Make make, AskBy ask, int least, Object atLeast, int most, Object atMost) {
        is(name + " of " + least, ask.of(make.desk(), least), atLeast);
        is(name + " of " + most, ask.of(make.desk(), most), atMost);
        int[] outside = {least - 1, most + 1, Integer.MIN_VALUE, Integer.MAX_VALUE};
        for (int number : outside) {
            refuses(ARGUMENT, name + " of " + number, make, desk -> ask.of(desk, number));
        }
    }

    void end() {
        endSentence();
        System.out.println(sentences + " sentences, " + asked + " answers, " + wrong + " wrong");
        if (wrong != 0) {
            System.exit(1);
        }
    }

    /** All that there is to see of a desk, in fewer than 300 calls. */
    static String lookOf(PactClocks desk) {
        StringBuilder look = new StringBuilder();
        int parties = desk.parties();
        int duties = desk.duties();
        look.append(row(desk.day(), parties, duties, desk.penalties(), desk.weakest()));
        for (int state = 0; state <= 5; state++) {
            look.append(' ').append(desk.inState(state));
        }
        look.append(" mean ").append(desk.meanPurse()).append(" digest ").append(desk.digest());
        for (int party = 0; party < parties; party++) {
            look.append("\n party ").append(party).append(partyOf(desk, party, parties));
        }
        for (int duty = 0; duty < duties; duty++) {
            look.append("\n duty ").append(duty).append(dutyOf(desk, duty));
        }
        return look.toString();
    }

    private static String partyOf(PactClocks desk, int party, int parties) {
        int[] balances = new int[parties];
        for (int other = 0; other < parties; other++) {
            balances[other] = desk.balance(party, other);
        }
        return row(desk.purseOf(party), desk.owes(party), desk.purseIn(party, 1),
                desk.purseIn(party, 60), desk.bestToPay(party)) + row(balances);
    }

    static String dutyOf(PactClocks desk, int duty) {
        return row(desk.stateOf(duty), desk.daysLeft(duty), desk.stoppedFor(duty),
                desk.priceOf(duty), desk.hanging(duty), desk.depthOf(duty), desk.textLength(duty),
                desk.sealOf(duty), desk.daysUntilFailed(duty));
    }

    static String row(int... numbers) {
        return Arrays.toString(numbers);
    }

    /** The states of all duties, by numbers. */
    static String states(PactClocks desk) {
        int[] states = new int[desk.duties()];
        for (int duty = 0; duty < states.length; duty++) {
            states[duty] = desk.stateOf(duty);
        }
        return row(states);
    }

    /** The coins of all parties, by numbers. */
    static String purses(PactClocks desk) {
        int[] purses = new int[desk.parties()];
        for (int party = 0; party < purses.length; party++) {
            purses[party] = desk.purseOf(party);
        }
        return row(purses);
    }

    private void endSentence() {
        if (ofSentence == 0) {
            tell("has not been tested");
        }
    }

    private void note() {
        asked++;
        ofSentence++;
    }

    private void tell(String what) {
        wrong++;
        if (wrong <= 40) {
            System.out.println(sentence + "\n  " + what);
        }
    }
}
