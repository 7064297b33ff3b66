/**
 * Long runs of calls, of 512 on each object, with arguments good and bad, each answer compared with
 * that of a PlainDesk. The numbers come from a row that is always the same.
 */
public final class LongRunsTest {
    private static final int RUNS = 800;
    private static final int CALLS = 512;

    private final Due due = new Due();
    private long seed = 20261119;
    private int calls;

    private LongRunsTest() {
    }

    public static void main(String[] args) {
        LongRunsTest test = new LongRunsTest();
        for (int run = 0; run < RUNS; run++) {
            test.run(run % 8);
        }
        test.due.end(1, 30);
    }

    /** A number from 0 to less than a bound. */
    private int below(int bound) {
        seed = seed * 6364136223846793005L + 1442695040888963407L;
        return (int) ((seed >>> 33) % bound);
    }

    /** A number from least to most; now and then one that is just outside, or far outside. */
    private int some(int least, int most) {
        int kind = below(60);
        if (kind == 0) {
            return least - 1;
        }
        if (kind == 1) {
            return most + 1;
        }
        if (kind == 2) {
            return below(2) == 0 ? Integer.MIN_VALUE : Integer.MAX_VALUE;
        }
        if (kind < 8) {
            return below(2) == 0 ? least : most;
        }
        return least + below(most - least + 1);
    }

    /** Of some kinds of run: with much or few coins, with many or few days in a pass. */
    private void run(int kind) {
        PactClocks desk = new PactClocks();
        PlainDesk plain = new PlainDesk();
        int most = kind % 2 == 0 ? 60 : 500;
        int days = kind < 4 ? 3 : 60;
        calls = 0;
        same(1, "digest()", desk::digest, plain::digest);
        while (calls < CALLS) {
            if (below(3) == 0) {
                ask(desk, plain);
            } else if (calls < CALLS - 1) {
                change(desk, plain, most, days);
            } else {
                same(30, "digest()", desk::digest, plain::digest);
            }
        }
    }

    private void same(int promise, String name, Due.Call one, Due.Call other) {
        calls++;
        Object want;
        try {
            want = other.answer();
        } catch (RuntimeException e) {
            want = "throws " + e.getClass().getSimpleName();
        }
        due.is(promise, name, one, want);
    }

    /** A call that may change something, and one that tells whether it did so rightly. */
    private void change(PactClocks desk, PlainDesk plain, int most, int passed) {
        int party = some(0, Math.max(0, plain.parties() - 1));
        int duty = some(0, Math.max(0, plain.duties() - 1));
        switch (below(14)) {
            case 0 -> {
                int purse = some(0, most);
                same(2, "addParty", () -> desk.addParty(purse), () -> plain.addParty(purse));
            }
            case 1, 2, 3 -> add(desk, plain, party);
            case 4, 5 -> same(4, "pay", () -> desk.pay(duty), () -> plain.pay(duty));
            case 6 -> {
                if (below(3) == 0) {
                    same(5, "release", () -> desk.release(duty), () -> plain.release(duty));
                }
            }
            case 7, 8 -> {
                int days = some(0, 20);
                same(6, "stop", () -> desk.stop(duty, days), () -> plain.stop(duty, days));
            }
            case 9 -> {
                int coins = some(1, most);
                same(7, "give", () -> desk.give(party, coins), () -> plain.give(party, coins));
            }
            case 10 -> {
                int days = some(1, passed);
                same(8, "pass", () -> desk.pass(days), () -> plain.pass(days));
            }
            default -> ask(desk, plain);
        }
        same(30, "digest()", desk::digest, plain::digest);
    }

    private void add(PactClocks desk, PlainDesk plain, int debtor) {
        int creditor = some(0, Math.max(0, plain.parties() - 1));
        int amount = below(2) == 0 ? some(1, 12) : some(1, 50);
        int days = some(1, 30);
        int cure = below(4) == 0 ? 0 : some(0, 10);
        int penalty = some(0, 20);
        int after = below(2) == 0 ? -1 : some(-1, Math.max(0, plain.duties() - 1));
        same(3, "addDuty", () -> desk.addDuty(debtor, creditor, amount, days, cure, penalty, after),
                () -> plain.addDuty(debtor, creditor, amount, days, cure, penalty, after));
    }

    private void ask(PactClocks desk, PlainDesk plain) {
        int party = some(0, Math.max(0, plain.parties() - 1));
        int duty = some(0, Math.max(0, plain.duties() - 1));
        int other = some(0, Math.max(0, plain.parties() - 1));
        int days = some(1, 60);
        int state = some(0, 5);
        switch (below(22)) {
            case 0 -> same(9, "day", desk::day, plain::day);
            case 1 -> same(10, "parties", desk::parties, plain::parties);
            case 2 -> same(11, "duties", desk::duties, plain::duties);
            case 3 -> same(12, "inState", () -> desk.inState(state), () -> plain.inState(state));
            case 4 -> same(13, "purseOf", () -> desk.purseOf(party), () -> plain.purseOf(party));
            case 5 -> same(14, "penalties", desk::penalties, plain::penalties);
            case 6 -> same(15, "stateOf", () -> desk.stateOf(duty), () -> plain.stateOf(duty));
            case 7 -> same(16, "daysLeft", () -> desk.daysLeft(duty), () -> plain.daysLeft(duty));
            case 8 -> same(17, "stoppedFor", () -> desk.stoppedFor(duty),
                    () -> plain.stoppedFor(duty));
            case 9 -> same(18, "priceOf", () -> desk.priceOf(duty), () -> plain.priceOf(duty));
            case 10 -> same(19, "hanging", () -> desk.hanging(duty), () -> plain.hanging(duty));
            case 11 -> same(20, "depthOf", () -> desk.depthOf(duty), () -> plain.depthOf(duty));
            case 12 -> same(21, "textLength", () -> desk.textLength(duty),
                    () -> plain.textLength(duty));
            case 13 -> same(22, "sealOf", () -> desk.sealOf(duty), () -> plain.sealOf(duty));
            case 14 -> same(23, "owes", () -> desk.owes(party), () -> plain.owes(party));
            case 15 -> same(24, "balance", () -> desk.balance(party, other),
                    () -> plain.balance(party, other));
            case 16 -> same(25, "weakest", desk::weakest, plain::weakest);
            case 17 -> same(26, "daysUntilFailed", () -> desk.daysUntilFailed(duty),
                    () -> plain.daysUntilFailed(duty));
            case 18, 19 -> same(27, "purseIn", () -> desk.purseIn(party, days),
                    () -> plain.purseIn(party, days));
            case 20 -> same(28, "bestToPay", () -> desk.bestToPay(party),
                    () -> plain.bestToPay(party));
            default -> same(29, "meanPurse", desk::meanPurse, plain::meanPurse);
        }
    }
}
