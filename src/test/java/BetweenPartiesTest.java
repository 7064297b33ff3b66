/** Promises 23 to 25: what parties owe each other. */
public final class BetweenPartiesTest {
    private static final Class<?> INDEX = IndexOutOfBoundsException.class;

    private final Due due = new Due();

    private BetweenPartiesTest() {
    }

    public static void main(String[] args) {
        BetweenPartiesTest test = new BetweenPartiesTest();
        test.noSuchParty();
        test.owesAndBalance();
        test.fullDesk();
        test.weakest();
        test.weakestOfSeveral();
        test.due.end(23, 25);
    }

    private void noSuchParty() {
        PactClocks empty = new PactClocks();
        due.refused(23, empty, "owes(0)", () -> empty.owes(0), INDEX);
        due.refused(24, empty, "balance(0, 0)", () -> empty.balance(0, 0), INDEX);
        PactClocks desk = new PactClocks();
        desk.addParty(5);
        desk.addParty(5);
        desk.addDuty(0, 1, 7, 5, 1, 1, -1);
        int[] wrong = {-1, 2, 5, 6, Integer.MIN_VALUE, Integer.MAX_VALUE};
        for (int party : wrong) {
            due.refused(23, desk, "owes(" + party + ")", () -> desk.owes(party), INDEX);
            due.refused(24, desk, "balance(" + party + ", 0)", () -> desk.balance(party, 0), INDEX);
            due.refused(24, desk, "balance(0, " + party + ")", () -> desk.balance(0, party), INDEX);
            due.refused(24, desk, "balance of " + party + " with itself",
                    () -> desk.balance(party, party), INDEX);
        }
    }

    private void owesAndBalance() {
        PactClocks desk = new PactClocks();
        desk.addParty(100);
        desk.addParty(100);
        desk.addParty(100);
        desk.addDuty(0, 1, 30, 2, 9, 10, -1);
        desk.addDuty(1, 0, 25, 9, 9, 9, -1);
        desk.addDuty(0, 2, 7, 9, 9, 9, -1);
        desk.addDuty(0, 1, 4, 9, 9, 9, -1);
        desk.addDuty(2, 1, 50, 9, 9, 9, 3);
        owe(desk, "as all run but one", 41, 25, 0);
        balances(desk, "as all run but one", -9, -7, 0);
        desk.pass(2);
        owe(desk, "as the first is late", 46, 25, 0);
        balances(desk, "as the first is late", -14, -7, 0);
        desk.pay(3);
        owe(desk, "as the fourth is paid", 42, 25, 50);
        balances(desk, "as the fourth is paid", -10, -7, 50);
        desk.release(2);
        desk.pay(0);
        owe(desk, "as more is over", 0, 25, 50);
        balances(desk, "as more is over", 25, 0, 50);
        desk.pass(60);
        owe(desk, "as all is over", 0, 0, 0);
        balances(desk, "as all is over", 0, 0, 0);
        due.changesNothing(23, desk, "owes(0)", () -> desk.owes(0));
        due.changesNothing(24, desk, "balance(0, 1)", () -> desk.balance(0, 1));
    }

    /** Six parties and twenty duties: each number up to the last one counts. */
    private void fullDesk() {
        PactClocks desk = new PactClocks();
        for (int i = 0; i < 6; i++) {
            desk.addParty(0);
        }
        for (int i = 0; i < 20; i++) {
            desk.addDuty(5, i % 5, 1 + i, 9, 9, 2, -1);
        }
        owe(desk, "in a full desk", 0, 0, 0, 0, 0, 210);
        due.is(24, "balance(0, 5) in a full desk", () -> desk.balance(0, 5), 34);
        due.is(24, "balance(4, 5) in a full desk", () -> desk.balance(4, 5), 50);
        due.is(24, "balance(5, 4) in a full desk", () -> desk.balance(5, 4), -50);
        due.is(24, "balance(5, 5) in a full desk", () -> desk.balance(5, 5), 0);
        due.is(25, "weakest() in a full desk", desk::weakest, 5);
    }

    private void owe(PactClocks desk, String when, int... want) {
        for (int i = 0; i < want.length; i++) {
            int party = i;
            due.is(23, "owes(" + i + ") " + when, () -> desk.owes(party), want[i]);
        }
    }

    private void balances(PactClocks desk, String when, int zeroOne, int zeroTwo, int oneTwo) {
        int[][] want = {{0, zeroOne, zeroTwo}, {-zeroOne, 0, oneTwo}, {-zeroTwo, -oneTwo, 0}};
        for (int i = 0; i < 3; i++) {
            for (int k = 0; k < 3; k++) {
                int one = i;
                int other = k;
                due.is(24, "balance(" + i + ", " + k + ") " + when,
                        () -> desk.balance(one, other), want[i][k]);
            }
        }
    }

    private void weakest() {
        PactClocks desk = new PactClocks();
        due.is(25, "weakest() of an empty desk", desk::weakest, -1);
        desk.addParty(30);
        desk.addParty(0);
        due.is(25, "weakest() without duties", desk::weakest, -1);
        desk.addDuty(0, 1, 30, 1, 9, 2, -1);
        due.is(25, "weakest() as one owes just what it has", desk::weakest, -1);
        desk.pass(1);
        due.is(25, "weakest() as it owes one coin more", desk::weakest, 0);
        desk.addDuty(1, 0, 1, 9, 9, 2, 0);
        due.is(25, "weakest() as the other one's duty waits", desk::weakest, 0);
        desk.addDuty(1, 0, 2, 9, 9, 2, -1);
        due.is(25, "weakest() as the other one owes 2 beyond", desk::weakest, 1);
        desk.give(1, 1);
        due.is(25, "weakest() as both owe 1 beyond", desk::weakest, 0);
        desk.give(0, 1);
        due.is(25, "weakest() as the other one alone owes more", desk::weakest, 1);
        desk.give(1, 1);
        due.is(25, "weakest() as none owes more", desk::weakest, -1);
        due.changesNothing(25, desk, "weakest()", desk::weakest);
    }

    private void weakestOfSeveral() {
        PactClocks desk = new PactClocks();
        for (int i = 0; i < 6; i++) {
            desk.addParty(0);
        }
        desk.addDuty(4, 0, 10, 9, 9, 2, -1);
        desk.addDuty(2, 0, 9, 9, 9, 2, -1);
        desk.addDuty(5, 0, 10, 9, 9, 2, -1);
        due.is(25, "weakest() of two", desk::weakest, 4);
        desk.addDuty(2, 0, 1, 9, 9, 2, -1);
        due.is(25, "weakest() of three", desk::weakest, 2);
        desk.addDuty(5, 0, 1, 9, 9, 2, -1);
        due.is(25, "weakest(), the last", desk::weakest, 5);
    }
}
