/**
 * A desk of contracts: parties owe each other coins by duties, each with a time to pay and a time
 * to cure what is late.
 */
public final class PactClocks {
    private static final int MOST_PARTIES = 6;
    private static final int MOST_DUTIES = 20;
    private static final int MOST_COINS = 500;
    private static final int MOST_DAYS = 60;
    private static final int MOST_STOPPED = 20;

    private static final int MOST_AMOUNT = 50;
    private static final int MOST_TO_PAY = 30;
    private static final int MOST_TO_CURE = 10;
    private static final int MOST_PENALTY = 20;

    private static final int WAITS = 0;
    private static final int RUNS = 1;
    private static final int LATE = 2;
    private static final int PAID = 3;
    private static final int FAILED = 4;
    private static final int RELEASED = 5;

    private static final int NONE = -1;
    private static final int DIGEST_DAYS = 30;

    private final Terms terms;
    private final Book book;
    private final Book ahead;
    private int partyCount;
    private int today;

    /** Creates a desk without parties and duties, at the day 0. */
    public PactClocks() {
        Terms shared = new Terms();
        terms = shared;
        book = new Book(shared);
        // Made once and written over by each look ahead, so that no call makes a copy of its own.
        ahead = new Book(shared);
    }

    // ---- parties and duties

    /** Adds a party with a purse of coins and returns its number. */
    public int addParty(int purse) throws IllegalArgumentException, IllegalStateException {
        requireWithin(purse, 0, MOST_COINS);
        if (partyCount >= MOST_PARTIES) {
            throw new IllegalStateException("there are as many parties as there can be");
        }
        int party = partyCount;
        book.purses[party] = purse;
        partyCount++;
        return party;
    }

    /** Adds a duty, which hangs on another one unless after is -1, and returns its number. */
    public int addDuty(int debtor, int creditor, int amount, int days, int cure, int penalty, int after)
            throws IndexOutOfBoundsException, IllegalArgumentException, IllegalStateException {
        requireParty(debtor);
        requireParty(creditor);
        if (after != NONE) {
            requireDuty(after);
        }
        if (debtor == creditor) {
            throw new IllegalArgumentException("a party can't owe itself");
        }
        requireWithin(amount, 1, MOST_AMOUNT);
        requireWithin(days, 1, MOST_TO_PAY);
        requireWithin(cure, 0, MOST_TO_CURE);
        requireWithin(penalty, 0, MOST_PENALTY);
        if (terms.count >= MOST_DUTIES) {
            throw new IllegalStateException("there are as many duties as there can be");
        }
        if (book.isGone(after)) {
            throw new IllegalStateException("the duty on which it would hang is failed or released");
        }
        int duty = terms.add(debtor, creditor, amount, days, cure, penalty, after);
        book.enter(duty);
        return duty;
    }

    /** Pays a duty and returns its price. */
    public int pay(int duty) throws IndexOutOfBoundsException, IllegalStateException {
        requireDuty(duty);
        if (!book.canBePaid(duty)) {
            throw new IllegalStateException("the duty has no price now, or its debtor has fewer coins");
        }
        int price = book.price(duty);
        book.settle(duty);
        return price;
    }

    /** Releases a duty and returns how many duties are released by this. */
    public int release(int duty) throws IndexOutOfBoundsException, IllegalStateException {
        requireDuty(duty);
        if (book.states[duty] != WAITS && !book.isOpen(duty)) {
            throw new IllegalStateException("the duty is paid, failed or released");
        }
        book.end(duty, RELEASED);
        return 1 + book.releaseWaitingBehind(duty);
    }

    /** Stops the clock of a duty, in the place of what was left, and returns what was left. */
    public int stop(int duty, int days)
            throws IndexOutOfBoundsException, IllegalArgumentException, IllegalStateException {
        requireDuty(duty);
        requireWithin(days, 0, MOST_STOPPED);
        if (!book.isOpen(duty)) {
            throw new IllegalStateException("the duty neither runs nor is late");
        }
        int before = book.stopped[duty];
        book.stopped[duty] = days;
        return before;
    }

    /** Gives coins to a party and returns how many it has then. */
    public int give(int party, int coins) throws IndexOutOfBoundsException, IllegalArgumentException {
        requireParty(party);
        requireWithin(coins, 1, MOST_COINS);
        book.purses[party] += coins;
        return book.purses[party];
    }

    /** Lets days go by and returns how many duties fail in them. */
    public int pass(int days) throws IllegalArgumentException {
        requireWithin(days, 1, MOST_DAYS);
        today += days;
        return book.live(days);
    }

    // ---- what there is

    /** Returns the day. */
    public int day() {
        return today;
    }

    /** Returns how many parties there are. */
    public int parties() {
        return partyCount;
    }

    /** Returns how many duties there are. */
    public int duties() {
        return terms.count;
    }

    /** Returns how many duties are in a state. */
    public int inState(int state) throws IllegalArgumentException {
        requireWithin(state, WAITS, RELEASED);
        int found = 0;
        for (int duty = 0; duty < terms.count; duty++) {
            if (book.states[duty] == state) {
                found++;
            }
        }
        return found;
    }

    /** Returns the coins of a party. */
    public int purseOf(int party) throws IndexOutOfBoundsException {
        requireParty(party);
        return book.purses[party];
    }

    /** Returns the coins that were taken as penalties in all. */
    public int penalties() {
        return book.taken;
    }

    // ---- duties

    /** Returns the state of a duty. */
    public int stateOf(int duty) throws IndexOutOfBoundsException {
        requireDuty(duty);
        return book.states[duty];
    }

    /** Returns the days left of a duty. */
    public int daysLeft(int duty) throws IndexOutOfBoundsException {
        requireDuty(duty);
        return book.left[duty];
    }

    /** Returns for how many days the clock of a duty stands still. */
    public int stoppedFor(int duty) throws IndexOutOfBoundsException {
        requireDuty(duty);
        return book.stopped[duty];
    }

    /** Returns the price of a duty. */
    public int priceOf(int duty) throws IndexOutOfBoundsException {
        requireDuty(duty);
        return book.price(duty);
    }

    /** Returns how many duties hang on a duty, on these, and so on. */
    public int hanging(int duty) throws IndexOutOfBoundsException {
        requireDuty(duty);
        int found = 0;
        for (int other = duty + 1; other < terms.count; other++) {
            if (terms.hangsSomehowOn(other, duty)) {
                found++;
            }
        }
        return found;
    }

    /** Returns on how many duties a duty hangs. */
    public int depthOf(int duty) throws IndexOutOfBoundsException {
        requireDuty(duty);
        return terms.depth[duty];
    }

    /** Returns how many characters the text of a duty has. */
    public int textLength(int duty) throws IndexOutOfBoundsException {
        requireDuty(duty);
        return terms.signs[duty];
    }

    /** Returns the seal of a duty. */
    public int sealOf(int duty) throws IndexOutOfBoundsException {
        requireDuty(duty);
        return terms.seal[duty];
    }

    // ---- between parties

    /** Returns the prices of all duties of a party that run or are late, added. */
    public int owes(int party) throws IndexOutOfBoundsException {
        requireParty(party);
        int sum = 0;
        for (int duty = 0; duty < terms.count; duty++) {
            if (terms.debtor[duty] == party) {
                sum += book.price(duty);
            }
        }
        return sum;
    }

    /** Returns what the other party owes the first one, less what the first one owes the other. */
    public int balance(int one, int other) throws IndexOutOfBoundsException {
        requireParty(one);
        requireParty(other);
        return owedBetween(other, one) - owedBetween(one, other);
    }

    /** Returns the party that owes the most beyond its purse; -1 if none owes more than it has. */
    public int weakest() {
        int found = NONE;
        int most = 0;
        for (int party = 0; party < partyCount; party++) {
            int beyond = owes(party) - book.purses[party];
            if (beyond > most) {
                most = beyond;
                found = party;
            }
        }
        return found;
    }

    // ---- what would be

    /** Returns in how many days a duty fails, if nothing is done by hand; -1 if it does not. */
    public int daysUntilFailed(int duty) throws IndexOutOfBoundsException {
        requireDuty(duty);
        if (!book.isOpen(duty)) {
            return NONE;
        }
        // No other duty touches a clock that has begun, so its days add up: 20 + 30 + 10 at most.
        int days = book.stopped[duty] + book.left[duty];
        return book.states[duty] == RUNS ? days + terms.cure[duty] : days;
    }

    /** Returns the coins of a party behind some days, if nothing is done by hand. */
    public int purseIn(int party, int days) throws IndexOutOfBoundsException, IllegalArgumentException {
        requireParty(party);
        requireWithin(days, 1, MOST_DAYS);
        return coinsAhead(party, NONE, days);
    }

    /** Returns which of its duties a party had best pay now; -1 if none is better than paying none. */
    public int bestToPay(int party) throws IndexOutOfBoundsException {
        requireParty(party);
        int best = NONE;
        int most = coinsAhead(party, NONE, MOST_DAYS);
        for (int duty = 0; duty < terms.count; duty++) {
            if (terms.debtor[duty] == party && book.canBePaid(duty)) {
                int coins = coinsAhead(party, duty, MOST_DAYS);
                if (coins > most) {
                    most = coins;
                    best = duty;
                }
            }
        }
        return best;
    }

    /** Returns the mean of coins that parties have; 0 without any. */
    public double meanPurse() {
        if (partyCount == 0) {
            return 0.0;
        }
        int sum = 0;
        for (int party = 0; party < partyCount; party++) {
            sum += book.purses[party];
        }
        return (double) sum / partyCount;
    }

    /** Computes a checksum of all that can be asked. */
    public long digest() {
        long d = 2269;
        d = d * 31 + day();
        d = d * 31 + parties();
        d = d * 31 + duties();
        for (int state = WAITS; state <= RELEASED; state++) {
            d = d * 31 + inState(state);
        }
        d = d * 31 + penalties();
        d = d * 31 + weakest();
        for (int party = 0; party < partyCount; party++) {
            d = d * 31 + purseOf(party);
            d = d * 31 + owes(party);
            for (int other = 0; other < partyCount; other++) {
                d = d * 31 + balance(party, other);
            }
            d = d * 31 + purseIn(party, DIGEST_DAYS);
            d = d * 31 + bestToPay(party);
        }
        for (int duty = 0; duty < terms.count; duty++) {
            d = d * 31 + stateOf(duty);
            d = d * 31 + daysLeft(duty);
            d = d * 31 + stoppedFor(duty);
            d = d * 31 + priceOf(duty);
            d = d * 31 + hanging(duty);
            d = d * 31 + depthOf(duty);
            d = d * 31 + sealOf(duty);
            d = d * 31 + daysUntilFailed(duty);
        }
        return d;
    }

    private int owedBetween(int debtor, int creditor) {
        int sum = 0;
        for (int duty = 0; duty < terms.count; duty++) {
            if (terms.debtor[duty] == debtor && terms.creditor[duty] == creditor) {
                sum += book.price(duty);
            }
        }
        return sum;
    }

    /** The coins of a party behind some days, with one duty (or NONE) paid before them. */
    private int coinsAhead(int party, int paidFirst, int days) {
        ahead.copyFrom(book);
        if (paidFirst != NONE) {
            ahead.settle(paidFirst);
        }
        ahead.live(days);
        return ahead.purses[party];
    }

    private void requireParty(int party) {
        if (party < 0 || party >= partyCount) {
            throw new IndexOutOfBoundsException("there is no such party");
        }
    }

    private void requireDuty(int duty) {
        if (duty < 0 || duty >= terms.count) {
            throw new IndexOutOfBoundsException("there is no such duty");
        }
    }

    private static void requireWithin(int number, int least, int most) {
        if (number < least || number > most) {
            throw new IllegalArgumentException("a number is too small or too great");
        }
    }

    /** What was agreed of each duty: nothing changes it once the duty is there. */
    private static final class Terms {
        final int[] debtor = new int[MOST_DUTIES];
        final int[] creditor = new int[MOST_DUTIES];
        final int[] amount = new int[MOST_DUTIES];
        final int[] days = new int[MOST_DUTIES];
        final int[] cure = new int[MOST_DUTIES];
        final int[] penalty = new int[MOST_DUTIES];
        final int[] after = new int[MOST_DUTIES];
        final int[] depth = new int[MOST_DUTIES];
        final int[] signs = new int[MOST_DUTIES];
        final int[] seal = new int[MOST_DUTIES];
        int count;

        /** Adds a duty; that there is room and that all numbers fit is tested by the caller. */
        int add(int owing, int owed, int coins, int toPay, int toCure, int fine, int base) {
            int duty = count;
            debtor[duty] = owing;
            creditor[duty] = owed;
            amount[duty] = coins;
            days[duty] = toPay;
            cure[duty] = toCure;
            penalty[duty] = fine;
            after[duty] = base;
            depth[duty] = base == NONE ? 0 : depth[base] + 1;
            keepText(duty);
            count++;
            return duty;
        }

        /** A text never changes, so its length and its seal are kept in the place of it. */
        private void keepText(int duty) {
            StringBuilder text = new StringBuilder();
            text.append(debtor[duty]).append(" owes ").append(amount[duty]);
            text.append(" to ").append(creditor[duty]);
            if (after[duty] != NONE) {
                text.append(" after ").append(after[duty]);
            }
            text.append('.');
            signs[duty] = text.length();
            seal[duty] = sealFor(text);
        }

        private static int sealFor(StringBuilder text) {
            int sum = 11;
            for (int i = 0; i < text.length(); i++) {
                sum = sum * 31 + text.charAt(i);
            }
            return sum;
        }

        /** Whether a duty hangs on another one, be it by others between them. */
        boolean hangsSomehowOn(int duty, int other) {
            int base = duty;
            for (int step = depth[duty]; step > 0; step--) {
                base = after[base];
                if (base == other) {
                    return true;
                }
            }
            return false;
        }
    }

    /** How things stand: all that hands and days change, so that a copy can look ahead. */
    private static final class Book {
        final Terms terms;
        final int[] purses = new int[MOST_PARTIES];
        final int[] states = new int[MOST_DUTIES];
        final int[] left = new int[MOST_DUTIES];
        final int[] stopped = new int[MOST_DUTIES];
        int taken;

        Book(Terms shared) {
            terms = shared;
        }

        void copyFrom(Book other) {
            System.arraycopy(other.purses, 0, purses, 0, MOST_PARTIES);
            System.arraycopy(other.states, 0, states, 0, MOST_DUTIES);
            System.arraycopy(other.left, 0, left, 0, MOST_DUTIES);
            System.arraycopy(other.stopped, 0, stopped, 0, MOST_DUTIES);
            taken = other.taken;
        }

        /** Whether a duty runs or is late. */
        boolean isOpen(int duty) {
            return states[duty] == RUNS || states[duty] == LATE;
        }

        /** Whether a duty, or NONE, is failed or released. */
        boolean isGone(int duty) {
            return duty != NONE && (states[duty] == FAILED || states[duty] == RELEASED);
        }

        int price(int duty) {
            if (states[duty] == RUNS) {
                return terms.amount[duty];
            }
            if (states[duty] == LATE) {
                return terms.amount[duty] + terms.penalty[duty] / 2;
            }
            return 0;
        }

        boolean canBePaid(int duty) {
            return isOpen(duty) && purses[terms.debtor[duty]] >= price(duty);
        }

        /** Gives a new duty its first state. */
        void enter(int duty) {
            int base = terms.after[duty];
            if (base != NONE && (states[base] == WAITS || isOpen(base))) {
                end(duty, WAITS);
            } else {
                begin(duty);
            }
        }

        private void begin(int duty) {
            states[duty] = RUNS;
            left[duty] = terms.days[duty];
            stopped[duty] = 0;
        }

        /** Puts a duty into a state in which it has no clock. */
        void end(int duty, int state) {
            states[duty] = state;
            left[duty] = 0;
            stopped[duty] = 0;
        }

        /** Pays a duty; that this can be is tested by the caller. */
        void settle(int duty) {
            move(price(duty), duty);
            end(duty, PAID);
            for (int other = duty + 1; other < terms.count; other++) {
                if (terms.after[other] == duty && states[other] == WAITS) {
                    begin(other);
                }
            }
        }

        private void move(int coins, int duty) {
            purses[terms.debtor[duty]] -= coins;
            purses[terms.creditor[duty]] += coins;
        }

        /** Lets days go by and returns how many duties fail in them. */
        int live(int days) {
            int failures = 0;
            for (int day = 0; day < days; day++) {
                for (int duty = 0; duty < terms.count; duty++) {
                    if (isOpen(duty) && runsOutToday(duty)) {
                        fail(duty);
                        failures++;
                    }
                }
            }
            return failures;
        }

        /** Lets a day go by for a duty that runs or is late; tells whether it is to fail now. */
        private boolean runsOutToday(int duty) {
            if (stopped[duty] > 0) {
                stopped[duty]--;
                return false;
            }
            left[duty]--;
            if (left[duty] == 0 && states[duty] == RUNS) {
                states[duty] = LATE;
                left[duty] = terms.cure[duty];
            }
            return left[duty] == 0;
        }

        private void fail(int duty) {
            int coins = Math.min(terms.penalty[duty], purses[terms.debtor[duty]]);
            move(coins, duty);
            taken += coins;
            end(duty, FAILED);
            releaseWaitingBehind(duty);
        }

        /**
         * Releases what waits for a duty that is gone, and what waits for that, and so on; returns
         * how many. A duty hangs on a smaller number, and none waits for one that was gone before,
         * so one way through the numbers finds all.
         */
        int releaseWaitingBehind(int duty) {
            int released = 0;
            for (int other = duty + 1; other < terms.count; other++) {
                if (states[other] == WAITS && isGone(terms.after[other])) {
                    states[other] = RELEASED;
                    released++;
                }
            }
            return released;
        }
    }
}
