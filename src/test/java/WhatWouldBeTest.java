/** Promises 26 to 30: what would be, the mean and the digest. */
public final class WhatWouldBeTest {
    private static final Class<?> INDEX = IndexOutOfBoundsException.class;
    private static final Class<?> ARGUMENT = IllegalArgumentException.class;

    private final Due due = new Due();

    private WhatWouldBeTest() {
    }

    public static void main(String[] args) {
        WhatWouldBeTest test = new WhatWouldBeTest();
        test.daysUntilFailed();
        test.daysUntilFailedIsRight();
        test.purseIn();
        test.purseInRefused();
        test.bestToPay();
        test.bestToPayByWhatHangs();
        test.bestToPayOfSeveral();
        test.bestToPayLooksFarAhead();
        test.bestToPayOfTwenty();
        test.bestToPayRefused();
        test.meanPurse();
        test.digest();
        test.digestOfLaterDays();
        test.due.end(26, 30);
    }

    /** As many parties as there are purses. */
    private static PactClocks deskOf(int... purses) {
        PactClocks desk = new PactClocks();
        for (int purse : purses) {
            desk.addParty(purse);
        }
        return desk;
    }

    private void failsIn(PactClocks desk, String when, int duty, int want) {
        due.is(26, "daysUntilFailed(" + duty + ") " + when, () -> desk.daysUntilFailed(duty), want);
    }

    private void daysUntilFailed() {
        PactClocks desk = deskOf(100, 100);
        int[] wrong = {-1, 0, 20, Integer.MIN_VALUE, Integer.MAX_VALUE};
        for (int duty : wrong) {
            due.refused(26, desk, "daysUntilFailed(" + duty + ")",
                    () -> desk.daysUntilFailed(duty), INDEX);
        }
        desk.addDuty(0, 1, 1, 1, 0, 5, -1);
        desk.addDuty(0, 1, 1, 30, 10, 5, -1);
        desk.addDuty(0, 1, 1, 3, 2, 5, -1);
        desk.addDuty(0, 1, 1, 1, 1, 5, 2);
        desk.addDuty(0, 1, 1, 1, 1, 5, 3);
        due.refused(26, desk, "daysUntilFailed(5)", () -> desk.daysUntilFailed(5), INDEX);
        failsIn(desk, "in the next day", 0, 1);
        failsIn(desk, "with the longest time", 1, 40);
        failsIn(desk, "with days to cure", 2, 5);
        failsIn(desk, "which waits", 3, -1);
        failsIn(desk, "which waits for one that waits", 4, -1);
        desk.stop(1, 20);
        failsIn(desk, "with the longest time, stopped", 1, 60);
        for (int i = 0; i < 5; i++) {
            int duty = i;
            due.changesNothing(26, desk, "daysUntilFailed", () -> desk.daysUntilFailed(duty));
        }
        desk.pass(1);
        failsIn(desk, "which is failed", 0, -1);
        failsIn(desk, "stopped, behind a day", 1, 59);
        failsIn(desk, "behind a day", 2, 4);
        desk.pass(2);
        failsIn(desk, "which is late", 2, 2);
        desk.stop(2, 7);
        failsIn(desk, "which is late and stopped", 2, 9);
        desk.pay(2);
        failsIn(desk, "which is paid", 2, -1);
        failsIn(desk, "which has begun", 3, 2);
        desk.release(3);
        failsIn(desk, "which is released", 3, -1);
        failsIn(desk, "which is released with it", 4, -1);
    }

    /** Lets the days go by that are told, and sees that it fails in the last of them. */
    private void daysUntilFailedIsRight() {
        for (int days = 1; days <= 30; days += 7) {
            for (int cure = 0; cure <= 10; cure += 5) {
                for (int stopped = 0; stopped <= 20; stopped += 10) {
                    PactClocks desk = deskOf(100, 100);
                    desk.addDuty(0, 1, 1, days, cure, 5, -1);
                    desk.stop(0, stopped);
                    int told = desk.daysUntilFailed(0);
                    failsIn(desk, "of " + days + ", " + cure + ", " + stopped, 0,
                            days + cure + stopped);
                    if (told > 1) {
                        due.is(26, "pass up to the day before", () -> desk.pass(told - 1), 0);
                    }
                    failsIn(desk, "in the next day", 0, 1);
                    due.is(26, "pass(1)", () -> desk.pass(1), 1);
                }
            }
        }
    }

    private void has(PactClocks desk, int party, int days, int want) {
        due.is(27, "purseIn(" + party + ", " + days + ")", () -> desk.purseIn(party, days), want);
    }

    private void purseIn() {
        PactClocks desk = deskOf(30, 4, 0);
        desk.addDuty(0, 1, 9, 2, 1, 20, -1);
        desk.addDuty(1, 2, 9, 3, 0, 15, -1);
        desk.addDuty(0, 2, 9, 4, 0, 20, -1);
        desk.addDuty(2, 0, 9, 30, 10, 3, -1);
        desk.addDuty(2, 0, 9, 1, 0, 20, 2);
        desk.stop(3, 20);
        has(desk, 0, 2, 30);
        has(desk, 0, 3, 10);
        has(desk, 1, 3, 9);
        has(desk, 2, 3, 15);
        has(desk, 0, 4, 0);
        has(desk, 2, 4, 25);
        has(desk, 2, 59, 25);
        has(desk, 2, 60, 22);
        has(desk, 0, 60, 3);
        for (int i = 0; i < 3; i++) {
            int party = i;
            due.changesNothing(27, desk, "purseIn", () -> desk.purseIn(party, 60));
        }
        due.is(27, "purseOf(0)", () -> desk.purseOf(0), 30);
        int[] want = new int[3];
        for (int party = 0; party < 3; party++) {
            want[party] = desk.purseIn(party, 45);
        }
        desk.pass(45);
        for (int i = 0; i < 3; i++) {
            int party = i;
            due.is(27, "purseOf(" + i + ") behind 45 days", () -> desk.purseOf(party), want[i]);
        }
    }

    private void purseInRefused() {
        PactClocks desk = deskOf(30, 4);
        desk.addDuty(0, 1, 9, 2, 1, 20, -1);
        int[] noParty = {-1, 2, 6, Integer.MIN_VALUE, Integer.MAX_VALUE};
        for (int party : noParty) {
            due.refused(27, desk, "purseIn(" + party + ", 1)", () -> desk.purseIn(party, 1), INDEX);
            due.refused(27, desk, "purseIn(" + party + ", 0)", () -> desk.purseIn(party, 0), INDEX);
        }
        int[] wrong = {0, -1, 61, Integer.MIN_VALUE, Integer.MAX_VALUE};
        for (int days : wrong) {
            due.refused(27, desk, "purseIn(0, " + days + ")", () -> desk.purseIn(0, days), ARGUMENT);
        }
        due.is(27, "purseIn(0, 1)", () -> desk.purseIn(0, 1), 30);
        due.is(27, "purseIn(0, 60)", () -> desk.purseIn(0, 60), 10);
    }

    private void best(PactClocks desk, String when, int party, int want) {
        due.is(28, "bestToPay(" + party + ") " + when, () -> desk.bestToPay(party), want);
    }

    private void bestToPay() {
        PactClocks desk = deskOf(40, 40);
        best(desk, "without duties", 0, -1);
        desk.addDuty(0, 1, 10, 5, 5, 10, -1);
        best(desk, "as the penalty is no more than the price", 0, -1);
        best(desk, "as the other one owes nothing", 1, -1);
        desk.addDuty(0, 1, 9, 5, 5, 10, -1);
        best(desk, "as the penalty is 1 more than the price", 0, 1);
        desk.addDuty(0, 1, 11, 5, 5, 14, -1);
        best(desk, "as another one saves more", 0, 2);
        for (int party = 0; party < 2; party++) {
            int asked = party;
            due.changesNothing(28, desk, "bestToPay", () -> desk.bestToPay(asked));
        }
        desk.pass(5);
        best(desk, "as late ones cost half of the penalty more", 0, -1);
        desk.pay(2);
        desk.addDuty(0, 1, 2, 5, 5, 20, 0);
        best(desk, "as one waits that would save much", 0, -1);
        PactClocks poor = deskOf(8, 40);
        poor.addDuty(0, 1, 9, 5, 5, 20, -1);
        best(poor, "as it has fewer coins than the price", 0, -1);
        poor.addDuty(0, 1, 8, 5, 5, 3, -1);
        best(poor, "as it has no coins either way", 0, -1);
        poor.addDuty(1, 0, 30, 1, 0, 5, -1);
        best(poor, "as the first one takes all that it gets, either way", 0, -1);
        PactClocks late = deskOf(8, 40);
        late.addDuty(0, 1, 1, 1, 5, 6, -1);
        late.pass(1);
        best(late, "as a late one still saves some", 0, 0);
    }

    /** Paying can be worth it by the penalty that is to be got for what then begins. */
    private void bestToPayByWhatHangs() {
        PactClocks desk = deskOf(40, 40);
        desk.addDuty(0, 1, 5, 9, 0, 0, -1);
        desk.addDuty(1, 0, 50, 30, 10, 6, 0);
        best(desk, "as the one that begins fails in 40 days, for 1 coin more", 0, 0);
        PactClocks same = deskOf(40, 40);
        same.addDuty(0, 1, 5, 9, 0, 0, -1);
        same.addDuty(1, 0, 50, 30, 10, 5, 0);
        best(same, "as that brings just what it costs", 0, -1);
        PactClocks own = deskOf(40, 40);
        own.addDuty(0, 1, 5, 9, 0, 9, -1);
        own.addDuty(0, 1, 5, 1, 0, 9, 0);
        best(own, "as its own one would begin and fail", 0, -1);
    }

    private void bestToPayOfSeveral() {
        PactClocks desk = deskOf(40, 40, 40);
        desk.addDuty(1, 0, 1, 5, 5, 20, -1);
        desk.addDuty(0, 1, 5, 5, 5, 9, -1);
        desk.addDuty(0, 2, 4, 9, 1, 8, -1);
        desk.addDuty(0, 2, 1, 9, 1, 5, -1);
        best(desk, "of three that save the same", 0, 1);
        desk.addDuty(0, 2, 1, 9, 1, 6, -1);
        best(desk, "of which the last saves the most", 0, 4);
        desk.pay(4);
        desk.pay(1);
        best(desk, "of the two that are left", 0, 2);
        best(desk, "of the other party", 1, 0);
        best(desk, "of a party without duties", 2, -1);
    }

    /** What happens from the 31st to the 60th day counts, whether a duty is paid or none. */
    private void bestToPayLooksFarAhead() {
        PactClocks desk = deskOf(40, 40);
        desk.addDuty(0, 1, 5, 25, 10, 9, -1);
        best(desk, "as a penalty would be due in 35 days", 0, 0);
        desk.stop(0, 20);
        best(desk, "as it would be due in 55 days", 0, 0);
        PactClocks last = deskOf(40, 40);
        last.addDuty(0, 1, 5, 30, 10, 9, -1);
        last.stop(0, 20);
        best(last, "as it would be due in 60 days", 0, 0);
        PactClocks gain = deskOf(40, 40);
        gain.addDuty(0, 1, 5, 9, 9, 0, -1);
        gain.addDuty(1, 0, 5, 30, 10, 20, -1);
        best(gain, "as a penalty comes in 40 days, paid or not", 0, -1);
    }

    private void bestToPayOfTwenty() {
        PactClocks desk = deskOf(400, 400);
        for (int i = 0; i < 19; i++) {
            desk.addDuty(0, 1, 9, 9, 9, 9, -1);
        }
        desk.addDuty(0, 1, 9, 9, 9, 10, -1);
        best(desk, "of twenty, the last of which saves a coin", 0, 19);
        best(desk, "of none of twenty", 1, -1);
        due.is(28, "purseIn(1, 60) of twenty", () -> desk.purseIn(1, 60), 581);
    }

    private void bestToPayRefused() {
        PactClocks empty = deskOf();
        due.refused(28, empty, "bestToPay(0)", () -> empty.bestToPay(0), INDEX);
        PactClocks desk = deskOf(30, 4);
        desk.addDuty(0, 1, 9, 2, 1, 20, -1);
        int[] noParty = {-1, 2, 6, Integer.MIN_VALUE, Integer.MAX_VALUE};
        for (int party : noParty) {
            due.refused(28, desk, "bestToPay(" + party + ")", () -> desk.bestToPay(party), INDEX);
        }
    }

    private void meanPurse() {
        due.is(29, "meanPurse() without parties", () -> deskOf().meanPurse(), 0.0);
        due.is(29, "meanPurse() of 0", () -> deskOf(0).meanPurse(), 0.0);
        due.is(29, "meanPurse() of 7", () -> deskOf(7).meanPurse(), 7.0);
        due.is(29, "meanPurse() of 7 and 0", () -> deskOf(7, 0).meanPurse(), 3.5);
        due.is(29, "meanPurse() of 1, 0 and 0", () -> deskOf(1, 0, 0).meanPurse(), 1.0 / 3);
        due.is(29, "meanPurse() of six", () -> deskOf(500, 500, 500, 500, 500, 499).meanPurse(),
                2999.0 / 6);
        PactClocks desk = deskOf(10, 5);
        desk.addDuty(0, 1, 9, 2, 1, 20, -1);
        due.changesNothing(29, desk, "meanPurse()", desk::meanPurse);
        desk.pay(0);
        due.is(29, "meanPurse() behind a payment", desk::meanPurse, 7.5);
        desk.give(1, 2);
        due.is(29, "meanPurse() behind a gift", desk::meanPurse, 8.5);
    }

    private void digest() {
        PactClocks desk = deskOf();
        due.is(30, "digest() of an empty desk", desk::digest,
                folded(0, 0, 0, 0, 0, 0, 0, 0, 0, 0, -1));
        desk.addParty(100);
        due.is(30, "digest() with a party", desk::digest,
                folded(0, 1, 0, 0, 0, 0, 0, 0, 0, 0, -1, 100, 0, 0, 100, -1));
        desk.addParty(5);
        desk.addDuty(0, 1, 8, 5, 3, 20, -1);
        desk.addDuty(1, 0, 40, 20, 10, 4, -1);
        desk.addDuty(1, 0, 9, 2, 3, 10, 0);
        desk.stop(1, 2);
        desk.pass(1);
        due.is(30, "digest() with duties", desk::digest,
                folded(1, 2, 3, 1, 2, 0, 0, 0, 0, 0, 1,
                        100, 8, 0, 32, 80, 0,
                        5, 40, -32, 0, 25, -1,
                        1, 4, 0, 8, 1, 0, desk.sealOf(0), 7,
                        1, 20, 1, 40, 0, 0, desk.sealOf(1), 31,
                        0, 0, 0, 0, 0, 1, desk.sealOf(2), -1));
        due.changesNothing(30, desk, "digest()", desk::digest);
        due.is(30, "digest() twice", desk::digest, desk.digest());
    }

    /** Penalties that were taken are in the digest, and so are purses of the 30th day, not the 29th. */
    private void digestOfLaterDays() {
        PactClocks desk = deskOf(10, 0);
        desk.addDuty(0, 1, 50, 1, 0, 3, -1);
        desk.addDuty(0, 1, 50, 30, 0, 1, -1);
        desk.addDuty(0, 1, 50, 30, 1, 2, -1);
        desk.pass(1);
        desk.stop(1, 1);
        desk.stop(2, 1);
        due.is(30, "digest() with a penalty", desk::digest,
                folded(1, 2, 3, 0, 2, 0, 0, 1, 0, 3, 0,
                        7, 100, 0, -100, 6, -1,
                        3, 0, 100, 0, 4, -1,
                        4, 0, 0, 0, 0, 0, desk.sealOf(0), -1,
                        1, 29, 1, 50, 0, 0, desk.sealOf(1), 30,
                        1, 29, 1, 50, 0, 0, desk.sealOf(2), 31));
    }

    private static long folded(int... numbers) {
        long d = 2269;
        for (int x : numbers) {
            d = d * 31 + x;
        }
        return d;
    }
}
