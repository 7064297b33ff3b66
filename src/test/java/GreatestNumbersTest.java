import java.lang.management.ManagementFactory;

/** The greatest numbers that a run of calls can reach, and the last of its 512 calls. */
public final class GreatestNumbersTest {
    private static final int MOST_CALLS = 512;

    private final Edges edges = new Edges();

    private GreatestNumbersTest() {
    }

    public static void main(String[] args) {
        GreatestNumbersTest test = new GreatestNumbersTest();
        test.latestDay();
        test.fullestPurse();
        test.fullestPurses();
        test.fullPurseMoves();
        test.mostPenalties();
        test.mostOwed();
        test.mostInABalance();
        test.mostBeyond();
        test.mostAtOnce();
        test.mostDaysOfAClock();
        test.mostThatSaves();
        test.sealsWrapAround();
        test.digestWrapsAround();
        test.lastCalls();
        test.roomOfDearCalls();
        test.edges.end();
    }

    private void latestDay() {
        edges.of("the latest day: 511 calls of pass(60), and day()");
        PactClocks desk = new PactClocks();
        for (int call = 1; call < MOST_CALLS; call++) {
            edges.is("pass(60)", desk.pass(60), 0);
        }
        edges.is("day()", desk.day(), 30660);
        PactClocks late = Desks.purses(9, 9);
        for (int call = 0; call < 505; call++) {
            late.pass(60);
        }
        edges.is("a duty late in the run", late.addDuty(0, 1, 1, 30, 10, 3, -1), 0);
        edges.is("daysUntilFailed", late.daysUntilFailed(0), 40);
        edges.is("pass(60)", late.pass(60), 1);
        edges.is("day()", late.day(), 30360);
        edges.is("purseOf", late.purseOf(1), 12);
    }

    private void fullestPurse() {
        edges.of("the fullest purse: a party with 500 coins, and 511 gifts of 500");
        PactClocks desk = Desks.purses(500);
        int coins = 500;
        for (int call = 2; call <= MOST_CALLS; call++) {
            coins += 500;
            edges.is("give", desk.give(0, 500), coins);
        }
        edges.is("coins at last", coins, 256000);
    }

    private void fullestPurses() {
        edges.of("the fullest purses of six, their mean and their coins in 60 days");
        PactClocks desk = Desks.purses(500, 500, 500, 500, 500, 500);
        for (int call = 0; call < 480; call++) {
            desk.give(call % 6, 500);
        }
        edges.is("purses", Edges.purses(desk), "[40500, 40500, 40500, 40500, 40500, 40500]");
        edges.is("meanPurse()", desk.meanPurse(), 40500.0);
        desk.give(3, 499);
        edges.is("meanPurse()", desk.meanPurse(), 40583.166666666664);
        edges.is("purseIn", desk.purseIn(3, 60), 40999);
        edges.is("weakest()", desk.weakest(), -1);
        PactClocks one = Desks.purses(500);
        for (int call = 0; call < 510; call++) {
            one.give(0, 500);
        }
        edges.is("meanPurse() of the fullest", one.meanPurse(), 255500.0);
    }

    private void fullPurseMoves() {
        edges.of("a payment and a penalty out of a full purse, to a full purse");
        PactClocks desk = Desks.purses(500, 500);
        for (int call = 0; call < 490; call++) {
            desk.give(call % 2, 500);
        }
        desk.addDuty(0, 1, 50, 1, 1, 20, -1);
        desk.addDuty(0, 1, 50, 1, 0, 20, -1);
        edges.is("pass(1)", desk.pass(1), 1);
        edges.is("bestToPay", desk.bestToPay(0), -1);
        edges.is("purseIn", desk.purseIn(0, 60), 122960);
        edges.is("pay", desk.pay(0), 60);
        edges.is("purses", Edges.purses(desk), "[122920, 123080]");
    }

    private void mostPenalties() {
        edges.of("the most penalties: 20 duties, each with 20");
        PactClocks desk = Desks.purses(400, 500);
        for (int duty = 0; duty < 20; duty++) {
            desk.addDuty(0, 1, 50, 1, 0, 20, -1);
        }
        edges.is("purseIn", Edges.row(desk.purseIn(0, 1), desk.purseIn(1, 1)), "[0, 900]");
        edges.is("pass(1)", desk.pass(1), 20);
        edges.is("penalties()", desk.penalties(), 400);
        edges.is("purses", Edges.purses(desk), "[0, 900]");
        PactClocks fewer = Desks.purses(399, 500);
        for (int duty = 0; duty < 20; duty++) {
            fewer.addDuty(0, 1, 50, 1, 0, 20, -1);
        }
        fewer.pass(1);
        edges.is("penalties() with a coin fewer", fewer.penalties(), 399);
    }

    /** Twenty duties of one party, each of 60 coins as it is late. */
    private static PactClocks twentyLate(int purse) {
        PactClocks desk = Desks.purses(purse, 0);
        for (int duty = 0; duty < 20; duty++) {
            desk.addDuty(0, 1, 50, 1, 10, 20, -1);
        }
        desk.pass(1);
        return desk;
    }

    private void mostOwed() {
        edges.of("the most that is owed: 20 duties, each of 50 and half of 20 more");
        PactClocks desk = twentyLate(500);
        edges.is("owes", Edges.row(desk.owes(0), desk.owes(1)), "[1200, 0]");
        for (int i = 0; i < 2; i++) {
            desk.give(0, 350);
        }
        for (int duty = 0; duty < 20; duty++) {
            edges.is("pay", desk.pay(duty), 60);
            edges.is("owes", desk.owes(0), 1140 - 60 * duty);
        }
        edges.is("purses", Edges.purses(desk), "[0, 1200]");
    }

    private void mostInABalance() {
        edges.of("the most and the least in a balance: 1200");
        PactClocks desk = twentyLate(500);
        edges.is("balances", Edges.row(desk.balance(0, 1), desk.balance(1, 0)), "[-1200, 1200]");
    }

    private void mostBeyond() {
        edges.of("the most beyond a purse: 1200 of 0 coins");
        PactClocks desk = twentyLate(0);
        edges.is("weakest()", desk.weakest(), 0);
        edges.is("give(500)", desk.give(0, 500), 500);
        edges.is("give(500)", desk.give(0, 500), 1000);
        edges.is("weakest()", desk.weakest(), 0);
        edges.is("give(199)", desk.give(0, 199), 1199);
        edges.is("weakest() by a coin", desk.weakest(), 0);
        edges.is("give(1)", desk.give(0, 1), 1200);
        edges.is("weakest() by none", desk.weakest(), -1);
    }

    private void mostAtOnce() {
        edges.of("the most duties at once: 20 fail, 20 are released, 19 begin, 19 hang");
        edges.is("fail in 60 days", Desks.beside(20).pass(60), 20);
        edges.is("are released, in a star", Desks.star(20).release(0), 20);
        edges.is("are released, in a chain", Desks.chain(20).release(0), 20);
        PactClocks star = Desks.star(20);
        star.pay(0);
        edges.is("begin", star.inState(1), 19);
        edges.is("hang, one on the other", Desks.chain(20).hanging(0), 19);
        edges.is("depth", Desks.chain(20).depthOf(19), 19);
        PactClocks paid = Desks.chain(20);
        for (int duty = 0; duty < 20; duty++) {
            edges.is("pay a chain", paid.pay(duty), duty + 1);
            edges.is("states", Edges.row(paid.inState(0), paid.inState(1), paid.inState(3)),
                    Edges.row(Math.max(0, 18 - duty), duty < 19 ? 1 : 0, duty + 1));
        }
        edges.is("purses", Edges.purses(paid), "[290, 710]");
    }

    private void mostDaysOfAClock() {
        edges.of("the longest clock: 30 days to pay, 10 to cure, each stopped for 20 again and again");
        PactClocks desk = Desks.purses(9, 9);
        desk.addDuty(0, 1, 1, 30, 10, 3, -1);
        for (int i = 0; i < 100; i++) {
            desk.stop(0, 20);
            edges.is("pass(20)", desk.pass(20), 0);
        }
        edges.is("state and days left", Edges.row(desk.stateOf(0), desk.daysLeft(0)), "[1, 30]");
        desk.pass(30);
        for (int i = 0; i < 100; i++) {
            desk.stop(0, 20);
            edges.is("pass(20)", desk.pass(20), 0);
        }
        edges.is("late", Edges.row(desk.stateOf(0), desk.daysLeft(0)), "[2, 10]");
        edges.is("pass(9)", desk.pass(9), 0);
        edges.is("pass(1)", desk.pass(1), 1);
        edges.is("day()", desk.day(), 4040);
    }

    private void mostThatSaves() {
        edges.of("the most that a payment brings: 19 duties that hang on it fail, with 20 each");
        PactClocks desk = Desks.purses(500, 500);
        desk.addDuty(0, 1, 50, 1, 9, 20, -1);
        for (int duty = 1; duty < 20; duty++) {
            desk.addDuty(1, 0, 50, 30, 10, 20, 0);
        }
        edges.is("bestToPay", desk.bestToPay(0), 0);
        edges.is("purseIn without it", desk.purseIn(0, 60), 480);
        desk.pay(0);
        edges.is("purseIn with it", desk.purseIn(0, 60), 830);
        edges.is("daysUntilFailed", desk.daysUntilFailed(19), 40);
    }

    private void sealsWrapAround() {
        edges.of("its seal wraps around as a 32-bit integer");
        int below = 0;
        int above = 0;
        for (int amount = 1; amount <= 50; amount++) {
            PactClocks desk = Desks.beside(19);
            desk.addDuty(1, 0, amount, 1, 1, 1, amount % 20 - 1);
            String after = amount % 20 == 0 ? "." : " after " + (amount % 20 - 1) + ".";
            int seal = desk.sealOf(19);
            edges.is("sealOf", seal, Seals.of("1 owes " + amount + " to 0" + after));
            below += seal < 0 ? 1 : 0;
            above += seal > 0 ? 1 : 0;
        }
        edges.is("some are below 0 and some above", below > 0 && above > 0, true);
    }

    private void digestWrapsAround() {
        edges.of("30: Computes a checksum, which wraps around as a 64-bit integer");
        Edges.Make[] makes = {Desks::eachState, Desks::full, () -> Desks.chain(20),
            () -> Desks.beside(20), () -> Desks.ring(6), () -> twentyLate(500)};
        for (Edges.Make make : makes) {
            edges.is("digest()", make.desk().digest(), Seals.folded(numbersOf(make.desk())));
        }
    }

    /** The numbers of a digest, each asked by a call of its own. */
    private static int[] numbersOf(PactClocks desk) {
        int parties = desk.parties();
        int duties = desk.duties();
        int[] numbers = new int[11 + parties * (4 + parties) + 8 * duties];
        int at = put(numbers, 0, desk.day(), parties, duties);
        for (int state = 0; state <= 5; state++) {
            at = put(numbers, at, desk.inState(state));
        }
        at = put(numbers, at, desk.penalties(), desk.weakest());
        for (int party = 0; party < parties; party++) {
            at = put(numbers, at, desk.purseOf(party), desk.owes(party));
            for (int other = 0; other < parties; other++) {
                at = put(numbers, at, desk.balance(party, other));
            }
            at = put(numbers, at, desk.purseIn(party, 30), desk.bestToPay(party));
        }
        for (int duty = 0; duty < duties; duty++) {
            at = put(numbers, at, desk.stateOf(duty), desk.daysLeft(duty), desk.stoppedFor(duty));
            at = put(numbers, at, desk.priceOf(duty), desk.hanging(duty), desk.depthOf(duty));
            at = put(numbers, at, desk.sealOf(duty), desk.daysUntilFailed(duty));
        }
        return numbers;
    }

    private static int put(int[] numbers, int at, int... more) {
        System.arraycopy(more, 0, numbers, at, more.length);
        return at + more.length;
    }

    /** The desk with a duty in each state, behind 511 calls: 17 that make it, and others. */
    private static PactClocks atItsLastCall(boolean byRefusals) {
        PactClocks desk = Desks.eachState();
        for (int call = 17; call < MOST_CALLS - 1; call++) {
            if (byRefusals) {
                refusedCall(desk);
            } else {
                desk.digest();
            }
        }
        return desk;
    }

    private static void refusedCall(PactClocks desk) {
        try {
            desk.pay(6);
        } catch (IndexOutOfBoundsException e) {
            return;
        }
        throw new AssertionError("pay(6) is not refused");
    }

    private void last(String name, Edges.Ask ask, Object want) {
        edges.is(name + " as the first call behind those that make it", ask.of(Desks.eachState()), want);
        edges.is(name + " as call 512, behind digests", ask.of(atItsLastCall(false)), want);
        edges.is(name + " as call 512, behind refusals", ask.of(atItsLastCall(true)), want);
    }

    private void lastCalls() {
        edges.of("An object is used for at most 512 calls after it has been made");
        last("addParty", desk -> desk.addParty(500), 3);
        last("addDuty", desk -> desk.addDuty(0, 1, 50, 30, 10, 20, 3), 6);
        last("pay", desk -> desk.pay(2), 16);
        last("release", desk -> desk.release(0), 2);
        last("stop", desk -> desk.stop(0, 20), 3);
        last("give", desk -> desk.give(2, 500), 594);
        last("pass", desk -> desk.pass(60), 2);
        last("day", PactClocks::day, 3);
        last("parties", PactClocks::parties, 3);
        last("duties", PactClocks::duties, 6);
        last("inState", desk -> desk.inState(4), 1);
        last("purseOf", desk -> desk.purseOf(0), 93);
        last("penalties", PactClocks::penalties, 6);
        last("stateOf", desk -> desk.stateOf(5), 5);
        last("daysLeft", desk -> desk.daysLeft(2), 10);
        last("stoppedFor", desk -> desk.stoppedFor(2), 2);
        last("priceOf", desk -> desk.priceOf(2), 16);
        last("hanging", desk -> desk.hanging(0), 1);
        last("depthOf", desk -> desk.depthOf(1), 1);
        last("textLength", desk -> desk.textLength(1), 23);
        last("sealOf", desk -> desk.sealOf(1), Seals.of("1 owes 11 to 2 after 0."));
        last("owes", desk -> desk.owes(2), 16);
        last("balance", desk -> desk.balance(0, 2), 16);
        last("weakest", PactClocks::weakest, -1);
        last("daysUntilFailed", desk -> desk.daysUntilFailed(0), 41);
        last("purseIn", desk -> desk.purseIn(0, 60), 95);
        last("bestToPay", desk -> desk.bestToPay(2), -1);
        last("meanPurse", PactClocks::meanPurse, 90.66666666666667);
        last("digest", PactClocks::digest, Seals.folded(numbersOf(Desks.eachState())));
        PactClocks desk = atItsLastCall(false);
        edges.is("a desk behind 511 calls", desk.digest(), Desks.eachState().digest());
    }

    private void roomOfDearCalls() {
        edges.of("the page: all calls of one run live in one room");
        PactClocks desk = Desks.chain(20);
        desk.pay(0);
        com.sun.management.ThreadMXBean room =
                (com.sun.management.ThreadMXBean) ManagementFactory.getThreadMXBean();
        desk.digest();
        long before = room.getCurrentThreadAllocatedBytes();
        for (int call = 25; call <= MOST_CALLS; call++) {
            desk.digest();
        }
        long bytes = room.getCurrentThreadAllocatedBytes() - before;
        edges.is("digests of a full desk make no objects, but " + bytes + " bytes", bytes < 20000, true);
    }
}
