/** Promises 1 to 8: a new object, and the calls that change what there is. */
public final class PartiesAndDutiesTest {
    private static final Class<?> INDEX = IndexOutOfBoundsException.class;
    private static final Class<?> ARGUMENT = IllegalArgumentException.class;
    private static final Class<?> STATE = IllegalStateException.class;
    private static final int[] NO_INDEX = {-1, -2, 20, Integer.MIN_VALUE, Integer.MAX_VALUE};

    private final Due due = new Due();

    private PartiesAndDutiesTest() {
    }

    public static void main(String[] args) {
        PartiesAndDutiesTest test = new PartiesAndDutiesTest();
        test.newObject();
        test.addParty();
        test.addDuty();
        test.addDutyRefused();
        test.addDutyOnAnother();
        test.addDutyFull();
        test.pay();
        test.payBeginsWhatHangs();
        test.release();
        test.releaseInTheMiddle();
        test.stop();
        test.stopWhenLate();
        test.give();
        test.pass();
        test.passWithHanging();
        test.passTakesWhatIsThere();
        test.due.end(1, 8);
    }

    /** Three parties with 100, 20 and 0 coins. */
    private static PactClocks threeParties() {
        PactClocks desk = new PactClocks();
        desk.addParty(100);
        desk.addParty(20);
        desk.addParty(0);
        return desk;
    }

    private void newObject() {
        PactClocks desk = new PactClocks();
        due.is(1, "day()", desk::day, 0);
        due.is(1, "parties()", desk::parties, 0);
        due.is(1, "duties()", desk::duties, 0);
        due.is(1, "penalties()", desk::penalties, 0);
        for (int state = 0; state <= 5; state++) {
            int asked = state;
            due.is(1, "inState(" + asked + ")", () -> desk.inState(asked), 0);
        }
        PactClocks other = threeParties();
        other.addDuty(0, 1, 1, 1, 1, 1, -1);
        other.pass(1);
        due.is(1, "day() beside another desk", desk::day, 0);
        due.is(1, "parties() beside another desk", desk::parties, 0);
        due.is(1, "duties() beside another desk", desk::duties, 0);
    }

    private void addParty() {
        PactClocks desk = new PactClocks();
        int[] wrong = {-1, 501, Integer.MIN_VALUE, Integer.MAX_VALUE};
        for (int purse : wrong) {
            due.refused(2, desk, "addParty(" + purse + ")", () -> desk.addParty(purse), ARGUMENT);
        }
        int[] purses = {0, 500, 1, 499, 250, 77};
        for (int i = 0; i < 6; i++) {
            int purse = purses[i];
            due.is(2, "addParty(" + purse + ")", () -> desk.addParty(purse), i);
            due.is(2, "parties()", desk::parties, i + 1);
        }
        for (int i = 0; i < 6; i++) {
            int party = i;
            due.is(2, "purseOf(" + i + ")", () -> desk.purseOf(party), purses[i]);
        }
        due.refused(2, desk, "addParty(5) as the seventh", () -> desk.addParty(5), STATE);
        due.refused(2, desk, "addParty(-1) as the seventh", () -> desk.addParty(-1), ARGUMENT);
        due.refused(2, desk, "addParty(501) as the seventh", () -> desk.addParty(501), ARGUMENT);
    }

    private void addDuty() {
        PactClocks desk = threeParties();
        due.is(3, "least duty", () -> desk.addDuty(0, 1, 1, 1, 0, 0, -1), 0);
        due.is(3, "greatest duty", () -> desk.addDuty(2, 0, 50, 30, 10, 20, -1), 1);
        due.is(3, "middle duty", () -> desk.addDuty(1, 2, 25, 15, 5, 11, -1), 2);
        due.is(3, "duties()", desk::duties, 3);
        int[] days = {1, 30, 15};
        int[] amounts = {1, 50, 25};
        for (int i = 0; i < 3; i++) {
            int duty = i;
            due.is(3, "stateOf(" + i + ")", () -> desk.stateOf(duty), 1);
            due.is(3, "daysLeft(" + i + ")", () -> desk.daysLeft(duty), days[i]);
            due.is(3, "stoppedFor(" + i + ")", () -> desk.stoppedFor(duty), 0);
            due.is(3, "priceOf(" + i + ")", () -> desk.priceOf(duty), amounts[i]);
            due.is(3, "depthOf(" + i + ")", () -> desk.depthOf(duty), 0);
        }
        due.is(3, "purseOf(0)", () -> desk.purseOf(0), 100);
        due.is(3, "owes(2)", () -> desk.owes(2), 50);
        due.is(3, "balance(0, 2)", () -> desk.balance(0, 2), 50);
        due.is(3, "daysUntilFailed(0)", () -> desk.daysUntilFailed(0), 1);
        due.is(3, "daysUntilFailed(1)", () -> desk.daysUntilFailed(1), 40);
    }

    private void addDutyRefused() {
        PactClocks desk = threeParties();
        desk.addDuty(0, 1, 1, 1, 1, 1, -1);
        int[] noParty = {-1, 3, 6, Integer.MIN_VALUE, Integer.MAX_VALUE};
        for (int party : noParty) {
            addRefused(desk, INDEX, party, 1, 1, 1, 1, 1, -1);
            addRefused(desk, INDEX, 0, party, 1, 1, 1, 1, -1);
            addRefused(desk, INDEX, party, party, 0, 0, -1, -1, -1);
        }
        int[] noBase = {-2, 1, 20, Integer.MIN_VALUE, Integer.MAX_VALUE};
        for (int after : noBase) {
            addRefused(desk, INDEX, 0, 1, 1, 1, 1, 1, after);
            addRefused(desk, INDEX, 0, 0, 0, 0, -1, -1, after);
        }
        for (int party = 0; party < 3; party++) {
            addRefused(desk, ARGUMENT, party, party, 1, 1, 1, 1, -1);
        }
        int[] extremes = {Integer.MIN_VALUE, Integer.MAX_VALUE};
        for (int number : extremes) {
            addRefused(desk, ARGUMENT, 0, 1, number, 1, 1, 1, -1);
            addRefused(desk, ARGUMENT, 0, 1, 1, number, 1, 1, -1);
            addRefused(desk, ARGUMENT, 0, 1, 1, 1, number, 1, -1);
            addRefused(desk, ARGUMENT, 0, 1, 1, 1, 1, number, -1);
        }
        addRefused(desk, ARGUMENT, 0, 1, 0, 1, 1, 1, -1);
        addRefused(desk, ARGUMENT, 0, 1, 51, 1, 1, 1, -1);
        addRefused(desk, ARGUMENT, 0, 1, 1, 0, 1, 1, -1);
        addRefused(desk, ARGUMENT, 0, 1, 1, 31, 1, 1, -1);
        addRefused(desk, ARGUMENT, 0, 1, 1, 1, -1, 1, -1);
        addRefused(desk, ARGUMENT, 0, 1, 1, 1, 11, 1, -1);
        addRefused(desk, ARGUMENT, 0, 1, 1, 1, 1, -1, -1);
        addRefused(desk, ARGUMENT, 0, 1, 1, 1, 1, 21, -1);
        PactClocks empty = new PactClocks();
        addRefused(empty, INDEX, 0, 1, 1, 1, 1, 1, -1);
        addRefused(empty, INDEX, 0, 0, 0, 0, 0, 0, 0);
    }

    private void addRefused(PactClocks desk, Class<?> want, int... a) {
        String name = "addDuty(" + a[0] + ", " + a[1] + ", " + a[2] + ", " + a[3] + ", " + a[4]
                + ", " + a[5] + ", " + a[6] + ")";
        due.refused(3, desk, name,
                () -> desk.addDuty(a[0], a[1], a[2], a[3], a[4], a[5], a[6]), want);
    }

    private void addDutyOnAnother() {
        PactClocks desk = threeParties();
        desk.addDuty(0, 1, 10, 2, 5, 4, -1);
        due.is(3, "on one that runs", () -> desk.addDuty(1, 2, 7, 9, 1, 1, 0), 1);
        due.is(3, "stateOf(1)", () -> desk.stateOf(1), 0);
        due.is(3, "daysLeft(1)", () -> desk.daysLeft(1), 0);
        due.is(3, "priceOf(1)", () -> desk.priceOf(1), 0);
        due.is(3, "on one that waits", () -> desk.addDuty(2, 0, 8, 9, 1, 1, 1), 2);
        due.is(3, "stateOf(2)", () -> desk.stateOf(2), 0);
        desk.pass(2);
        due.is(3, "stateOf(0)", () -> desk.stateOf(0), 2);
        due.is(3, "on one that is late", () -> desk.addDuty(2, 1, 9, 9, 1, 1, 0), 3);
        due.is(3, "stateOf(3)", () -> desk.stateOf(3), 0);
        desk.pay(0);
        due.is(3, "on one that is paid", () -> desk.addDuty(2, 1, 9, 6, 1, 1, 0), 4);
        due.is(3, "stateOf(4)", () -> desk.stateOf(4), 1);
        due.is(3, "daysLeft(4)", () -> desk.daysLeft(4), 6);
        due.is(3, "depthOf(4)", () -> desk.depthOf(4), 1);
        desk.release(3);
        due.refused(3, desk, "on one that is released",
                () -> desk.addDuty(2, 1, 9, 6, 1, 1, 3), STATE);
        addRefused(desk, ARGUMENT, 2, 1, 0, 6, 1, 1, 3);
        addRefused(desk, ARGUMENT, 2, 2, 1, 6, 1, 1, 3);
        desk.pass(7);
        due.is(3, "stateOf(4) behind 7 days", () -> desk.stateOf(4), 4);
        due.refused(3, desk, "on one that is failed",
                () -> desk.addDuty(2, 1, 9, 6, 1, 1, 4), STATE);
        addRefused(desk, ARGUMENT, 2, 1, 9, 6, 1, 21, 4);
    }

    private void addDutyFull() {
        PactClocks desk = threeParties();
        for (int i = 0; i < 20; i++) {
            int number = i;
            due.is(3, "addDuty as number " + i,
                    () -> desk.addDuty(0, 1, 1, 5, 1, 1, number - 1), number);
        }
        due.is(3, "duties()", desk::duties, 20);
        addRefused(desk, STATE, 0, 1, 1, 1, 1, 1, -1);
        addRefused(desk, STATE, 0, 1, 1, 1, 1, 1, 19);
        addRefused(desk, ARGUMENT, 0, 1, 51, 1, 1, 1, -1);
        addRefused(desk, INDEX, 0, 1, 51, 1, 1, 1, 20);
    }

    private void pay() {
        PactClocks desk = threeParties();
        desk.addDuty(0, 1, 30, 5, 3, 10, -1);
        desk.addDuty(1, 2, 20, 1, 3, 11, -1);
        desk.addDuty(1, 0, 50, 9, 3, 1, -1);
        desk.addDuty(2, 0, 50, 9, 3, 1, 2);
        for (int duty : NO_INDEX) {
            due.refused(4, desk, "pay(" + duty + ")", () -> desk.pay(duty), INDEX);
        }
        due.refused(4, desk, "pay(4)", () -> desk.pay(4), INDEX);
        due.refused(4, desk, "pay(3), which waits", () -> desk.pay(3), STATE);
        due.refused(4, desk, "pay(2) with 20 of 50 coins", () -> desk.pay(2), STATE);
        desk.stop(0, 4);
        due.is(4, "pay(0)", () -> desk.pay(0), 30);
        due.is(4, "purseOf(0)", () -> desk.purseOf(0), 70);
        due.is(4, "purseOf(1)", () -> desk.purseOf(1), 50);
        due.is(4, "purseOf(2)", () -> desk.purseOf(2), 0);
        due.is(4, "stateOf(0)", () -> desk.stateOf(0), 3);
        due.is(4, "daysLeft(0)", () -> desk.daysLeft(0), 0);
        due.is(4, "stoppedFor(0)", () -> desk.stoppedFor(0), 0);
        due.is(4, "priceOf(0)", () -> desk.priceOf(0), 0);
        due.is(4, "penalties()", desk::penalties, 0);
        due.refused(4, desk, "pay(0), which is paid", () -> desk.pay(0), STATE);
        desk.pass(1);
        due.is(4, "stateOf(1)", () -> desk.stateOf(1), 2);
        due.is(4, "pay(1), which is late", () -> desk.pay(1), 25);
        due.is(4, "purseOf(1)", () -> desk.purseOf(1), 25);
        due.is(4, "purseOf(2)", () -> desk.purseOf(2), 25);
        due.is(4, "penalties() behind a late payment", desk::penalties, 0);
        desk.give(1, 24);
        due.refused(4, desk, "pay(2) with 49 of 50 coins", () -> desk.pay(2), STATE);
        desk.give(1, 1);
        due.is(4, "pay(2) with 50 of 50 coins", () -> desk.pay(2), 50);
        due.is(4, "purseOf(1)", () -> desk.purseOf(1), 0);
        desk.release(3);
        due.refused(4, desk, "pay(3), which is released", () -> desk.pay(3), STATE);
        desk.addDuty(0, 2, 1, 1, 0, 0, -1);
        desk.pass(1);
        due.refused(4, desk, "pay(4), which is failed", () -> desk.pay(4), STATE);
    }

    private void payBeginsWhatHangs() {
        PactClocks desk = threeParties();
        desk.addDuty(0, 1, 1, 1, 9, 3, -1);
        desk.addDuty(0, 1, 2, 7, 1, 1, 0);
        desk.addDuty(1, 2, 3, 8, 1, 1, 1);
        desk.addDuty(0, 1, 4, 9, 1, 1, 0);
        desk.addDuty(0, 1, 5, 9, 1, 1, 0);
        desk.addDuty(0, 1, 6, 4, 1, 1, -1);
        desk.release(4);
        desk.pass(3);
        due.is(4, "pay(0)", () -> desk.pay(0), 2);
        int[] states = {3, 1, 0, 1, 5, 1};
        int[] left = {0, 7, 0, 9, 0, 1};
        for (int i = 0; i < 6; i++) {
            int duty = i;
            due.is(4, "stateOf(" + i + ")", () -> desk.stateOf(duty), states[i]);
            due.is(4, "daysLeft(" + i + ")", () -> desk.daysLeft(duty), left[i]);
        }
        due.is(4, "pay(1)", () -> desk.pay(1), 2);
        due.is(4, "stateOf(2)", () -> desk.stateOf(2), 1);
        due.is(4, "daysLeft(2)", () -> desk.daysLeft(2), 8);
    }

    private void release() {
        PactClocks desk = threeParties();
        desk.addDuty(0, 1, 30, 2, 3, 10, -1);
        desk.addDuty(0, 1, 30, 2, 0, 10, -1);
        desk.addDuty(0, 1, 30, 9, 0, 10, -1);
        desk.addDuty(0, 1, 30, 9, 0, 10, -1);
        for (int duty : NO_INDEX) {
            due.refused(5, desk, "release(" + duty + ")", () -> desk.release(duty), INDEX);
        }
        due.refused(5, desk, "release(4)", () -> desk.release(4), INDEX);
        desk.stop(3, 7);
        due.is(5, "release(3), which runs", () -> desk.release(3), 1);
        due.is(5, "stateOf(3)", () -> desk.stateOf(3), 5);
        due.is(5, "daysLeft(3)", () -> desk.daysLeft(3), 0);
        due.is(5, "stoppedFor(3)", () -> desk.stoppedFor(3), 0);
        due.refused(5, desk, "release(3), which is released", () -> desk.release(3), STATE);
        desk.pay(2);
        due.refused(5, desk, "release(2), which is paid", () -> desk.release(2), STATE);
        desk.pass(2);
        due.refused(5, desk, "release(1), which is failed", () -> desk.release(1), STATE);
        due.is(5, "stateOf(0)", () -> desk.stateOf(0), 2);
        due.is(5, "release(0), which is late", () -> desk.release(0), 1);
        due.is(5, "purseOf(0)", () -> desk.purseOf(0), 60);
        due.is(5, "penalties()", desk::penalties, 10);
    }

    private void releaseInTheMiddle() {
        PactClocks desk = threeParties();
        desk.addDuty(0, 1, 1, 5, 1, 1, -1);
        desk.addDuty(0, 1, 1, 5, 1, 1, 0);
        desk.addDuty(0, 1, 1, 5, 1, 1, 1);
        desk.addDuty(0, 1, 1, 5, 1, 1, 1);
        desk.addDuty(0, 1, 1, 5, 1, 1, 2);
        desk.addDuty(0, 1, 1, 5, 1, 1, 0);
        desk.addDuty(0, 1, 1, 5, 1, 1, 4);
        desk.addDuty(0, 1, 1, 5, 1, 1, -1);
        due.is(5, "release(4), which waits", () -> desk.release(4), 2);
        due.is(5, "release(1), which waits", () -> desk.release(1), 3);
        int[] middle = {1, 5, 5, 5, 5, 0, 5, 1};
        for (int i = 0; i < 8; i++) {
            int duty = i;
            due.is(5, "stateOf(" + i + ")", () -> desk.stateOf(duty), middle[i]);
        }
        due.is(5, "release(0), which runs", () -> desk.release(0), 2);
        due.is(5, "stateOf(5)", () -> desk.stateOf(5), 5);
        due.is(5, "stateOf(7)", () -> desk.stateOf(7), 1);
        PactClocks other = threeParties();
        other.addDuty(0, 1, 1, 5, 1, 1, -1);
        other.addDuty(0, 1, 1, 5, 1, 1, 0);
        other.addDuty(0, 1, 1, 5, 1, 1, 1);
        other.pay(0);
        due.is(5, "release(1), behind a paid one", () -> other.release(1), 2);
        due.is(5, "stateOf(0)", () -> other.stateOf(0), 3);
    }

    private void stop() {
        PactClocks desk = threeParties();
        desk.addDuty(0, 1, 30, 5, 3, 10, -1);
        desk.addDuty(0, 1, 30, 5, 3, 10, 0);
        int[] wrong = {-1, 21, Integer.MIN_VALUE, Integer.MAX_VALUE};
        for (int duty : NO_INDEX) {
            due.refused(6, desk, "stop(" + duty + ", 1)", () -> desk.stop(duty, 1), INDEX);
            due.refused(6, desk, "stop(" + duty + ", -1)", () -> desk.stop(duty, -1), INDEX);
        }
        for (int days : wrong) {
            due.refused(6, desk, "stop(0, " + days + ")", () -> desk.stop(0, days), ARGUMENT);
            due.refused(6, desk, "stop(1, " + days + "), which waits",
                    () -> desk.stop(1, days), ARGUMENT);
        }
        due.refused(6, desk, "stop(1, 1), which waits", () -> desk.stop(1, 1), STATE);
        due.refused(6, desk, "stop(1, 0), which waits", () -> desk.stop(1, 0), STATE);
        due.is(6, "stop(0, 20)", () -> desk.stop(0, 20), 0);
        due.is(6, "stoppedFor(0)", () -> desk.stoppedFor(0), 20);
        desk.pass(3);
        due.is(6, "stoppedFor(0) behind 3 days", () -> desk.stoppedFor(0), 17);
        due.is(6, "daysLeft(0)", () -> desk.daysLeft(0), 5);
        due.is(6, "stop(0, 2)", () -> desk.stop(0, 2), 17);
        desk.pass(3);
        due.is(6, "stoppedFor(0) behind 6 days", () -> desk.stoppedFor(0), 0);
        due.is(6, "daysLeft(0) behind 6 days", () -> desk.daysLeft(0), 4);
        due.is(6, "stop(0, 9)", () -> desk.stop(0, 9), 0);
        due.is(6, "stop(0, 0)", () -> desk.stop(0, 0), 9);
        desk.pass(1);
        due.is(6, "daysLeft(0) behind 7 days", () -> desk.daysLeft(0), 3);
        desk.pay(0);
        due.refused(6, desk, "stop(0, 1), which is paid", () -> desk.stop(0, 1), STATE);
        desk.release(1);
        due.refused(6, desk, "stop(1, 1), which is released", () -> desk.stop(1, 1), STATE);
    }

    private void stopWhenLate() {
        PactClocks desk = threeParties();
        desk.addDuty(0, 1, 30, 1, 2, 10, -1);
        desk.pass(1);
        due.is(6, "stop(0, 3), which is late", () -> desk.stop(0, 3), 0);
        due.is(6, "pass(3)", () -> desk.pass(3), 0);
        due.is(6, "stateOf(0)", () -> desk.stateOf(0), 2);
        due.is(6, "daysLeft(0)", () -> desk.daysLeft(0), 2);
        due.is(6, "pass(2)", () -> desk.pass(2), 1);
        due.is(6, "stateOf(0)", () -> desk.stateOf(0), 4);
        due.refused(6, desk, "stop(0, 1), which is failed", () -> desk.stop(0, 1), STATE);
    }

    private void give() {
        PactClocks desk = threeParties();
        int[] noParty = {-1, 3, 6, Integer.MIN_VALUE, Integer.MAX_VALUE};
        for (int party : noParty) {
            due.refused(7, desk, "give(" + party + ", 1)", () -> desk.give(party, 1), INDEX);
            due.refused(7, desk, "give(" + party + ", 0)", () -> desk.give(party, 0), INDEX);
        }
        int[] wrong = {0, -1, 501, Integer.MIN_VALUE, Integer.MAX_VALUE};
        for (int coins : wrong) {
            due.refused(7, desk, "give(1, " + coins + ")", () -> desk.give(1, coins), ARGUMENT);
        }
        due.is(7, "give(1, 1)", () -> desk.give(1, 1), 21);
        due.is(7, "give(1, 500)", () -> desk.give(1, 500), 521);
        due.is(7, "give(1, 500) again", () -> desk.give(1, 500), 1021);
        due.is(7, "purseOf(0)", () -> desk.purseOf(0), 100);
        due.is(7, "purseOf(1)", () -> desk.purseOf(1), 1021);
        due.is(7, "purseOf(2)", () -> desk.purseOf(2), 0);
    }

    private void pass() {
        PactClocks desk = threeParties();
        int[] wrong = {0, -1, 61, Integer.MIN_VALUE, Integer.MAX_VALUE};
        for (int days : wrong) {
            due.refused(8, desk, "pass(" + days + ")", () -> desk.pass(days), ARGUMENT);
        }
        desk.addDuty(0, 1, 30, 3, 2, 9, -1);
        desk.addDuty(0, 1, 30, 3, 0, 8, -1);
        desk.addDuty(0, 1, 30, 30, 10, 7, -1);
        due.is(8, "pass(2)", () -> desk.pass(2), 0);
        due.is(8, "daysLeft(0)", () -> desk.daysLeft(0), 1);
        due.is(8, "stateOf(0)", () -> desk.stateOf(0), 1);
        due.is(8, "pass(1)", () -> desk.pass(1), 1);
        due.is(8, "stateOf(0)", () -> desk.stateOf(0), 2);
        due.is(8, "daysLeft(0)", () -> desk.daysLeft(0), 2);
        due.is(8, "stateOf(1), without a day to cure", () -> desk.stateOf(1), 4);
        due.is(8, "daysLeft(1)", () -> desk.daysLeft(1), 0);
        due.is(8, "purseOf(0)", () -> desk.purseOf(0), 92);
        due.is(8, "purseOf(1)", () -> desk.purseOf(1), 28);
        due.is(8, "pass(1)", () -> desk.pass(1), 0);
        due.is(8, "pass(1)", () -> desk.pass(1), 1);
        due.is(8, "stateOf(0)", () -> desk.stateOf(0), 4);
        due.is(8, "day()", desk::day, 5);
        due.is(8, "pass(60)", () -> desk.pass(60), 1);
        due.is(8, "day()", desk::day, 65);
        due.is(8, "pass(60) of nothing", () -> desk.pass(60), 0);
        due.is(8, "penalties()", desk::penalties, 24);
        due.is(8, "purseOf(0)", () -> desk.purseOf(0), 76);
        due.is(8, "purseOf(1)", () -> desk.purseOf(1), 44);
        due.is(8, "pass(1) of an empty desk", () -> new PactClocks().pass(1), 0);
    }

    private void passWithHanging() {
        PactClocks desk = threeParties();
        desk.addDuty(0, 1, 1, 2, 1, 5, -1);
        desk.addDuty(0, 1, 1, 1, 0, 5, 0);
        desk.addDuty(0, 1, 1, 1, 0, 5, 1);
        desk.addDuty(0, 1, 1, 9, 9, 5, -1);
        desk.addDuty(0, 1, 1, 1, 0, 5, 3);
        due.is(8, "pass(2)", () -> desk.pass(2), 0);
        due.is(8, "stateOf(1)", () -> desk.stateOf(1), 0);
        due.is(8, "pass(9)", () -> desk.pass(9), 1);
        int[] states = {4, 5, 5, 2, 0};
        for (int i = 0; i < 5; i++) {
            int duty = i;
            due.is(8, "stateOf(" + i + ")", () -> desk.stateOf(duty), states[i]);
        }
        due.is(8, "penalties()", desk::penalties, 5);
        due.is(8, "stoppedFor(1)", () -> desk.stoppedFor(1), 0);
    }

    /** Penalties of one day go by the numbers of duties, and none takes more than there is. */
    private void passTakesWhatIsThere() {
        PactClocks desk = new PactClocks();
        desk.addParty(5);
        desk.addParty(0);
        desk.addParty(3);
        desk.addDuty(1, 2, 1, 1, 0, 20, -1);
        desk.addDuty(0, 1, 1, 1, 0, 12, -1);
        desk.addDuty(1, 0, 1, 1, 0, 4, -1);
        desk.addDuty(2, 0, 1, 1, 0, 3, -1);
        due.is(8, "pass(1)", () -> desk.pass(1), 4);
        due.is(8, "purseOf(0)", () -> desk.purseOf(0), 7);
        due.is(8, "purseOf(1)", () -> desk.purseOf(1), 1);
        due.is(8, "purseOf(2)", () -> desk.purseOf(2), 0);
        due.is(8, "penalties()", desk::penalties, 12);
    }
}
