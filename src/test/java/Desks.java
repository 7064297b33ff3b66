/** Desks to begin with, each made by a few calls. */
final class Desks {
    private Desks() {
    }

    /** As many parties as there are purses. */
    static PactClocks purses(int... purses) {
        PactClocks desk = new PactClocks();
        for (int purse : purses) {
            desk.addParty(purse);
        }
        return desk;
    }

    /** Parties in a ring: each owes its number + 1 to the next one, with a penalty of 20. */
    static PactClocks ring(int parties) {
        PactClocks desk = new PactClocks();
        for (int party = 0; party < parties; party++) {
            desk.addParty(100 + party);
        }
        for (int party = 0; party < parties && parties > 1; party++) {
            desk.addDuty(party, (party + 1) % parties, party + 1, 30, 10, 20, -1);
        }
        return desk;
    }

    /** Duties beside each other, all of them running and stopped, and no two of them the same. */
    static PactClocks beside(int duties) {
        PactClocks desk = purses(500, 500);
        for (int duty = 0; duty < duties; duty++) {
            desk.addDuty(0, 1, duty + 1, 30 - duty, duty % 11, duty, -1);
            desk.stop(duty, duty + 1);
        }
        return desk;
    }

    /** Duties of which each hangs on the one before it. */
    static PactClocks chain(int duties) {
        PactClocks desk = purses(500, 500);
        for (int duty = 0; duty < duties; duty++) {
            desk.addDuty(0, 1, duty + 1, 9, 3, 5, duty - 1);
        }
        return desk;
    }

    /** Duties of which all others hang on the first one. */
    static PactClocks star(int duties) {
        PactClocks desk = purses(500, 500);
        for (int duty = 0; duty < duties; duty++) {
            desk.addDuty(0, 1, duty + 1, 9, 3, 5, duty == 0 ? -1 : 0);
        }
        return desk;
    }

    /**
     * Three parties and a duty in each state, by 17 calls: 0 runs, and is stopped, 1 waits for it,
     * 2 is late, and is stopped, 3 is paid, 4 failed, 5 released.
     */
    static PactClocks eachState() {
        PactClocks desk = purses(100, 90, 80);
        desk.addDuty(0, 1, 10, 30, 10, 7, -1);
        desk.addDuty(1, 2, 11, 20, 9, 5, 0);
        desk.addDuty(2, 0, 12, 2, 10, 9, -1);
        desk.addDuty(0, 2, 13, 9, 8, 8, -1);
        desk.addDuty(1, 0, 14, 1, 0, 6, -1);
        desk.addDuty(2, 1, 15, 8, 7, 4, -1);
        desk.pay(3);
        desk.release(5);
        desk.pass(2);
        desk.stop(0, 4);
        desk.stop(2, 3);
        desk.give(1, 1);
        desk.pass(1);
        desk.give(2, 1);
        return desk;
    }

    /** Six parties and twenty duties: 0 released, 1 failed, the others running. */
    static PactClocks full() {
        PactClocks desk = purses(100, 100, 100, 100, 100, 100);
        desk.addDuty(0, 1, 5, 9, 9, 9, -1);
        desk.addDuty(1, 2, 6, 1, 0, 3, -1);
        desk.release(0);
        desk.pass(1);
        for (int duty = 2; duty < 20; duty++) {
            desk.addDuty(duty % 6, (duty + 1) % 6, duty, 20, 5, duty, -1);
        }
        return desk;
    }
}
