/** Promises 9 to 14: the day, and what is counted. */
public final class WhatThereIsTest {
    private static final Class<?> INDEX = IndexOutOfBoundsException.class;
    private static final Class<?> ARGUMENT = IllegalArgumentException.class;

    private final Due due = new Due();

    private WhatThereIsTest() {
    }

    public static void main(String[] args) {
        WhatThereIsTest test = new WhatThereIsTest();
        test.day();
        test.partiesAndDuties();
        test.inState();
        test.purseOf();
        test.penalties();
        test.due.end(9, 14);
    }

    private void day() {
        PactClocks desk = new PactClocks();
        due.is(9, "day()", desk::day, 0);
        desk.pass(1);
        due.is(9, "day()", desk::day, 1);
        desk.pass(60);
        due.is(9, "day()", desk::day, 61);
        desk.addParty(9);
        desk.purseIn(0, 60);
        desk.bestToPay(0);
        due.is(9, "day() behind a look ahead", desk::day, 61);
        for (int i = 0; i < 490; i++) {
            desk.pass(60);
        }
        due.is(9, "day() behind many days", desk::day, 29461);
        due.changesNothing(9, desk, "day()", desk::day);
    }

    private void partiesAndDuties() {
        PactClocks desk = new PactClocks();
        due.is(10, "parties()", desk::parties, 0);
        due.is(11, "duties()", desk::duties, 0);
        desk.addParty(1);
        due.is(10, "parties()", desk::parties, 1);
        for (int i = 1; i < 6; i++) {
            desk.addParty(1);
        }
        due.is(10, "parties()", desk::parties, 6);
        due.is(11, "duties()", desk::duties, 0);
        for (int i = 0; i < 20; i++) {
            desk.addDuty(i % 6, (i + 1) % 6, 1, 1, 0, 0, -1);
            int count = i + 1;
            due.is(11, "duties()", desk::duties, count);
        }
        desk.pass(2);
        due.is(11, "duties() that are failed all", desk::duties, 20);
        due.is(10, "parties()", desk::parties, 6);
        due.changesNothing(10, desk, "parties()", desk::parties);
        due.changesNothing(11, desk, "duties()", desk::duties);
    }

    private void inState() {
        PactClocks desk = new PactClocks();
        desk.addParty(100);
        desk.addParty(100);
        int[] wrong = {-1, 6, Integer.MIN_VALUE, Integer.MAX_VALUE};
        for (int state : wrong) {
            due.refused(12, desk, "inState(" + state + ")", () -> desk.inState(state), ARGUMENT);
        }
        for (int i = 0; i < 15; i++) {
            desk.addDuty(0, 1, 1, i < 3 ? 1 : 9, i < 1 ? 0 : 9, 0, -1);
        }
        for (int i = 15; i < 20; i++) {
            desk.addDuty(0, 1, 1, 9, 9, 0, 14);
        }
        counts(desk, 5, 15, 0, 0, 0, 0);
        desk.pass(1);
        counts(desk, 5, 12, 2, 0, 1, 0);
        desk.pay(3);
        desk.pay(4);
        desk.pay(5);
        counts(desk, 5, 9, 2, 3, 1, 0);
        desk.release(6);
        desk.release(15);
        counts(desk, 4, 8, 2, 3, 1, 2);
        desk.pay(14);
        counts(desk, 0, 11, 2, 4, 1, 2);
        due.changesNothing(12, desk, "inState(1)", () -> desk.inState(1));
    }

    private void counts(PactClocks desk, int... want) {
        for (int i = 0; i < 6; i++) {
            int state = i;
            due.is(12, "inState(" + i + ")", () -> desk.inState(state), want[i]);
        }
    }

    private void purseOf() {
        PactClocks desk = new PactClocks();
        due.refused(13, desk, "purseOf(0)", () -> desk.purseOf(0), INDEX);
        desk.addParty(0);
        desk.addParty(500);
        desk.addParty(33);
        int[] wrong = {-1, 3, 6, Integer.MIN_VALUE, Integer.MAX_VALUE};
        for (int party : wrong) {
            due.refused(13, desk, "purseOf(" + party + ")", () -> desk.purseOf(party), INDEX);
        }
        due.is(13, "purseOf(0)", () -> desk.purseOf(0), 0);
        due.is(13, "purseOf(1)", () -> desk.purseOf(1), 500);
        due.is(13, "purseOf(2)", () -> desk.purseOf(2), 33);
        desk.addDuty(1, 2, 50, 1, 1, 1, -1);
        desk.pay(0);
        due.is(13, "purseOf(1)", () -> desk.purseOf(1), 450);
        due.is(13, "purseOf(2)", () -> desk.purseOf(2), 83);
        due.changesNothing(13, desk, "purseOf(1)", () -> desk.purseOf(1));
    }

    private void penalties() {
        PactClocks desk = new PactClocks();
        desk.addParty(30);
        desk.addParty(0);
        due.is(14, "penalties()", desk::penalties, 0);
        desk.addDuty(0, 1, 1, 1, 0, 20, -1);
        desk.addDuty(0, 1, 1, 2, 0, 20, -1);
        desk.addDuty(1, 0, 1, 3, 0, 7, -1);
        desk.addDuty(0, 1, 1, 2, 9, 20, -1);
        desk.purseIn(0, 60);
        due.is(14, "penalties() behind a look ahead", desk::penalties, 0);
        desk.pass(1);
        due.is(14, "penalties()", desk::penalties, 20);
        desk.pass(1);
        due.is(14, "penalties(), of 10 coins that were there", desk::penalties, 30);
        desk.give(0, 500);
        desk.pay(3);
        due.is(14, "penalties() behind a late payment", desk::penalties, 30);
        desk.pass(1);
        due.is(14, "penalties()", desk::penalties, 37);
        due.changesNothing(14, desk, "penalties()", desk::penalties);
    }
}
