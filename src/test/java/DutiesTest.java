/** Promises 15 to 22: what is asked of one duty. */
public final class DutiesTest {
    private static final Class<?> INDEX = IndexOutOfBoundsException.class;

    private final Due due = new Due();

    private DutiesTest() {
    }

    public static void main(String[] args) {
        DutiesTest test = new DutiesTest();
        test.noSuchDuty();
        test.lifeOfOne();
        test.states();
        test.prices();
        test.hangingAndDepth();
        test.longChain();
        test.texts();
        test.due.end(15, 22);
    }

    private static PactClocks sixParties(int purse) {
        PactClocks desk = new PactClocks();
        for (int i = 0; i < 6; i++) {
            desk.addParty(purse);
        }
        return desk;
    }

    private void noSuchDuty() {
        PactClocks empty = new PactClocks();
        PactClocks some = sixParties(10);
        some.addDuty(0, 1, 1, 5, 1, 1, -1);
        some.addDuty(0, 1, 1, 5, 1, 1, 0);
        int[] wrong = {-1, -2, 2, 19, 20, Integer.MIN_VALUE, Integer.MAX_VALUE};
        noSuchDuty(empty, 0);
        for (int duty : wrong) {
            noSuchDuty(empty, duty);
            noSuchDuty(some, duty);
        }
    }

    private void noSuchDuty(PactClocks desk, int duty) {
        String of = "(" + duty + ")";
        due.refused(15, desk, "stateOf" + of, () -> desk.stateOf(duty), INDEX);
        due.refused(16, desk, "daysLeft" + of, () -> desk.daysLeft(duty), INDEX);
        due.refused(17, desk, "stoppedFor" + of, () -> desk.stoppedFor(duty), INDEX);
        due.refused(18, desk, "priceOf" + of, () -> desk.priceOf(duty), INDEX);
        due.refused(19, desk, "hanging" + of, () -> desk.hanging(duty), INDEX);
        due.refused(20, desk, "depthOf" + of, () -> desk.depthOf(duty), INDEX);
        due.refused(21, desk, "textLength" + of, () -> desk.textLength(duty), INDEX);
        due.refused(22, desk, "sealOf" + of, () -> desk.sealOf(duty), INDEX);
    }

    private void looks(String when, PactClocks desk, int duty, int state, int left, int stopped,
            int price) {
        String of = "(" + duty + ") " + when;
        due.is(15, "stateOf" + of, () -> desk.stateOf(duty), state);
        due.is(16, "daysLeft" + of, () -> desk.daysLeft(duty), left);
        due.is(17, "stoppedFor" + of, () -> desk.stoppedFor(duty), stopped);
        due.is(18, "priceOf" + of, () -> desk.priceOf(duty), price);
    }

    /** A duty that waits, runs, is stopped, is late, is stopped again, and fails. */
    private void lifeOfOne() {
        PactClocks desk = sixParties(100);
        desk.addDuty(2, 3, 1, 9, 0, 0, -1);
        desk.addDuty(4, 5, 40, 3, 2, 13, 0);
        desk.pass(4);
        looks("as it waits", desk, 1, 0, 0, 0, 0);
        desk.pay(0);
        looks("as it begins", desk, 1, 1, 3, 0, 40);
        desk.pass(1);
        looks("behind a day", desk, 1, 1, 2, 0, 40);
        desk.stop(1, 2);
        looks("as it is stopped", desk, 1, 1, 2, 2, 40);
        desk.pass(1);
        looks("as it stands still", desk, 1, 1, 2, 1, 40);
        desk.pass(1);
        looks("as it is to go on", desk, 1, 1, 2, 0, 40);
        desk.pass(1);
        looks("as it goes on", desk, 1, 1, 1, 0, 40);
        desk.pass(1);
        looks("as it is late", desk, 1, 2, 2, 0, 46);
        desk.stop(1, 1);
        desk.pass(1);
        looks("as it stood still late", desk, 1, 2, 2, 0, 46);
        desk.pass(1);
        looks("on its last day", desk, 1, 2, 1, 0, 46);
        desk.pass(1);
        looks("as it is failed", desk, 1, 4, 0, 0, 0);
        desk.pass(60);
        looks("long behind", desk, 1, 4, 0, 0, 0);
        looks("which is paid", desk, 0, 3, 0, 0, 0);
        due.is(15, "purseOf(4)", () -> desk.purseOf(4), 87);
    }

    private void states() {
        PactClocks desk = sixParties(100);
        desk.addDuty(0, 1, 5, 30, 10, 4, -1);
        desk.addDuty(1, 2, 5, 30, 10, 4, 0);
        desk.addDuty(2, 3, 5, 30, 10, 4, 1);
        desk.stop(0, 20);
        looks("stopped", desk, 0, 1, 30, 20, 5);
        desk.release(0);
        looks("released as it was stopped", desk, 0, 5, 0, 0, 0);
        looks("released with it", desk, 1, 5, 0, 0, 0);
        looks("released with that", desk, 2, 5, 0, 0, 0);
        desk.pass(3);
        looks("released long ago", desk, 0, 5, 0, 0, 0);
        desk.addDuty(0, 1, 5, 6, 10, 4, -1);
        desk.stop(3, 6);
        desk.pass(2);
        desk.pay(3);
        looks("paid as it was stopped", desk, 3, 3, 0, 0, 0);
        for (int i = 0; i < 4; i++) {
            int duty = i;
            due.changesNothing(15, desk, "stateOf", () -> desk.stateOf(duty));
            due.changesNothing(16, desk, "daysLeft", () -> desk.daysLeft(duty));
            due.changesNothing(17, desk, "stoppedFor", () -> desk.stoppedFor(duty));
            due.changesNothing(18, desk, "priceOf", () -> desk.priceOf(duty));
        }
    }

    /** Half of the penalty, cut, for each penalty there can be. */
    private void prices() {
        for (int penalty = 0; penalty <= 20; penalty++) {
            PactClocks desk = sixParties(100);
            desk.addDuty(5, 0, 50, 1, 1, penalty, -1);
            due.is(18, "priceOf(0) that runs", () -> desk.priceOf(0), 50);
            desk.pass(1);
            due.is(18, "priceOf(0) that is late, penalty " + penalty,
                    () -> desk.priceOf(0), 50 + penalty / 2);
            desk.pass(1);
            due.is(18, "priceOf(0) that is failed", () -> desk.priceOf(0), 0);
        }
    }

    private void hangingAndDepth() {
        PactClocks desk = sixParties(100);
        int[] after = {-1, 0, 0, 1, -1, 3, 2, 4, 5};
        int[] hanging = {6, 3, 1, 2, 1, 1, 0, 0, 0};
        int[] depth = {0, 1, 1, 2, 0, 3, 2, 1, 4};
        for (int i = 0; i < after.length; i++) {
            desk.addDuty(i % 6, (i + 1) % 6, 1, 20, 1, 1, after[i]);
        }
        hangs("at first", desk, hanging, depth);
        desk.pay(0);
        desk.pay(1);
        desk.release(3);
        hangs("behind payments and releases", desk, hanging, depth);
        desk.pass(60);
        hangs("as all are over", desk, hanging, depth);
        due.changesNothing(19, desk, "hanging(0)", () -> desk.hanging(0));
        due.changesNothing(20, desk, "depthOf(8)", () -> desk.depthOf(8));
    }

    private void hangs(String when, PactClocks desk, int[] hanging, int[] depth) {
        for (int i = 0; i < hanging.length; i++) {
            int duty = i;
            due.is(19, "hanging(" + i + ") " + when, () -> desk.hanging(duty), hanging[i]);
            due.is(20, "depthOf(" + i + ") " + when, () -> desk.depthOf(duty), depth[i]);
        }
    }

    private void longChain() {
        PactClocks desk = sixParties(100);
        for (int i = 0; i < 20; i++) {
            desk.addDuty(0, 1, 1, 20, 1, 1, i - 1);
        }
        for (int i = 0; i < 20; i++) {
            int duty = i;
            due.is(19, "hanging(" + i + ") in a chain", () -> desk.hanging(duty), 19 - i);
            due.is(20, "depthOf(" + i + ") in a chain", () -> desk.depthOf(duty), i);
        }
        due.is(19, "release(0) of a chain", () -> desk.release(0), 20);
        due.is(19, "hanging(0) of a released chain", () -> desk.hanging(0), 19);
    }

    private void texts() {
        PactClocks desk = sixParties(100);
        reads(desk, 0, desk.addDuty(0, 1, 30, 5, 3, 10, -1), "0 owes 30 to 1.");
        reads(desk, 1, desk.addDuty(5, 4, 1, 5, 3, 10, -1), "5 owes 1 to 4.");
        reads(desk, 2, desk.addDuty(3, 2, 50, 5, 3, 10, 0), "3 owes 50 to 2 after 0.");
        for (int i = 3; i < 12; i++) {
            reads(desk, i, desk.addDuty(2, 0, 9, 5, 3, 10, i - 1), "2 owes 9 to 0 after " + (i - 1) + ".");
        }
        reads(desk, 12, desk.addDuty(1, 3, 10, 30, 0, 0, 10), "1 owes 10 to 3 after 10.");
        due.is(22, "sealOf(0)", () -> desk.sealOf(0), -1568453810);
        desk.pay(0);
        desk.release(3);
        desk.pass(60);
        reads(desk, 0, 0, "0 owes 30 to 1.");
        reads(desk, 2, 2, "3 owes 50 to 2 after 0.");
        reads(desk, 12, 12, "1 owes 10 to 3 after 10.");
        due.changesNothing(21, desk, "textLength(0)", () -> desk.textLength(0));
        due.changesNothing(22, desk, "sealOf(0)", () -> desk.sealOf(0));
    }

    private void reads(PactClocks desk, int want, int duty, String text) {
        due.is(21, "the number of a duty", () -> duty, want);
        int seal = 11;
        for (char sign : text.toCharArray()) {
            seal = seal * 31 + sign;
        }
        due.is(21, "textLength(" + duty + ")", () -> desk.textLength(duty), text.length());
        due.is(22, "sealOf(" + duty + ")", () -> desk.sealOf(duty), seal);
    }
}
