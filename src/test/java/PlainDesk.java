import java.util.ArrayList;
import java.util.List;

/**
 * The document once more, written for the tests alone and in another way: objects and lists,
 * recursion, a whole copy for each look ahead, and every day of it gone through. It tests no
 * arguments but by the exceptions that the document names.
 */
final class PlainDesk {
    private static final class Party {
        int purse;
    }

    private static final class Duty {
        int number;
        int debtor;
        int creditor;
        int amount;
        int days;
        int cure;
        int penalty;
        Duty base;
        final List<Duty> hanging = new ArrayList<>();
        String state;
        int left;
        int stopped;

        boolean open() {
            return state.equals("runs") || state.equals("late");
        }
    }

    private static final List<String> STATES =
            List.of("waits", "runs", "late", "paid", "failed", "released");

    private final List<Party> parties = new ArrayList<>();
    private final List<Duty> duties = new ArrayList<>();
    private int day;
    private int taken;

    private PlainDesk copy() {
        PlainDesk other = new PlainDesk();
        for (Party party : parties) {
            Party same = new Party();
            same.purse = party.purse;
            other.parties.add(same);
        }
        for (Duty duty : duties) {
            Duty same = other.written(duty.debtor, duty.creditor, duty.amount, duty.days,
                    duty.cure, duty.penalty, duty.base == null ? -1 : duty.base.number);
            same.state = duty.state;
            same.left = duty.left;
            same.stopped = duty.stopped;
        }
        other.day = day;
        other.taken = taken;
        return other;
    }

    private Duty written(int debtor, int creditor, int amount, int days, int cure, int penalty,
            int after) {
        Duty duty = new Duty();
        duty.number = duties.size();
        duty.debtor = debtor;
        duty.creditor = creditor;
        duty.amount = amount;
        duty.days = days;
        duty.cure = cure;
        duty.penalty = penalty;
        if (after >= 0) {
            duty.base = duties.get(after);
            duty.base.hanging.add(duty);
        }
        duties.add(duty);
        return duty;
    }

    private Party party(int number) {
        if (number < 0 || number >= parties.size()) {
            throw new IndexOutOfBoundsException();
        }
        return parties.get(number);
    }

    private Duty duty(int number) {
        if (number < 0 || number >= duties.size()) {
            throw new IndexOutOfBoundsException();
        }
        return duties.get(number);
    }

    private static void argument(boolean good) {
        if (!good) {
            throw new IllegalArgumentException();
        }
    }

    private static void state(boolean good) {
        if (!good) {
            throw new IllegalStateException();
        }
    }

    int addParty(int purse) {
        argument(0 <= purse && purse <= 500);
        state(parties.size() < 6);
        Party party = new Party();
        party.purse = purse;
        parties.add(party);
        return parties.size() - 1;
    }

    int addDuty(int debtor, int creditor, int amount, int days, int cure, int penalty, int after) {
        party(debtor);
        party(creditor);
        Duty base = after == -1 ? null : duty(after);
        argument(debtor != creditor);
        argument(1 <= amount && amount <= 50);
        argument(1 <= days && days <= 30);
        argument(0 <= cure && cure <= 10);
        argument(0 <= penalty && penalty <= 20);
        state(duties.size() < 20);
        state(base == null || !base.state.equals("failed") && !base.state.equals("released"));
        Duty duty = written(debtor, creditor, amount, days, cure, penalty, after);
        if (base != null && (base.state.equals("waits") || base.open())) {
            duty.state = "waits";
        } else {
            begin(duty);
        }
        return duty.number;
    }

    private static void begin(Duty duty) {
        duty.state = "runs";
        duty.left = duty.days;
        duty.stopped = 0;
    }

    private static void over(Duty duty, String state) {
        duty.state = state;
        duty.left = 0;
        duty.stopped = 0;
    }

    private static int price(Duty duty) {
        return switch (duty.state) {
            case "runs" -> duty.amount;
            case "late" -> duty.amount + duty.penalty / 2;
            default -> 0;
        };
    }

    int pay(int number) {
        Duty duty = duty(number);
        int price = price(duty);
        state(duty.open());
        state(parties.get(duty.debtor).purse >= price);
        parties.get(duty.debtor).purse -= price;
        parties.get(duty.creditor).purse += price;
        over(duty, "paid");
        for (Duty other : duty.hanging) {
            if (other.state.equals("waits")) {
                begin(other);
            }
        }
        return price;
    }

    private int releaseHanging(Duty duty) {
        int released = 0;
        for (Duty other : duty.hanging) {
            if (other.state.equals("waits")) {
                over(other, "released");
                released += 1 + releaseHanging(other);
            }
        }
        return released;
    }

    int release(int number) {
        Duty duty = duty(number);
        state(duty.open() || duty.state.equals("waits"));
        over(duty, "released");
        return 1 + releaseHanging(duty);
    }

    int stop(int number, int days) {
        Duty duty = duty(number);
        argument(0 <= days && days <= 20);
        state(duty.open());
        int before = duty.stopped;
        duty.stopped = days;
        return before;
    }

    int give(int number, int coins) {
        Party party = party(number);
        argument(1 <= coins && coins <= 500);
        party.purse += coins;
        return party.purse;
    }

    int pass(int days) {
        argument(1 <= days && days <= 60);
        int failures = 0;
        for (int i = 0; i < days; i++) {
            for (Duty duty : duties) {
                if (duty.open()) {
                    failures += oneDay(duty);
                }
            }
            day++;
        }
        return failures;
    }

    private int oneDay(Duty duty) {
        if (duty.stopped > 0) {
            duty.stopped--;
            return 0;
        }
        duty.left--;
        if (duty.left > 0) {
            return 0;
        }
        if (duty.state.equals("runs")) {
            duty.state = "late";
            duty.left = duty.cure;
            if (duty.cure > 0) {
                return 0;
            }
        }
        Party debtor = parties.get(duty.debtor);
        int coins = debtor.purse < duty.penalty ? debtor.purse : duty.penalty;
        debtor.purse -= coins;
        parties.get(duty.creditor).purse += coins;
        taken += coins;
        over(duty, "failed");
        releaseHanging(duty);
        return 1;
    }

    int day() {
        return day;
    }

    int parties() {
        return parties.size();
    }

    int duties() {
        return duties.size();
    }

    int inState(int state) {
        argument(0 <= state && state <= 5);
        return (int) duties.stream().filter(d -> d.state.equals(STATES.get(state))).count();
    }

    int purseOf(int number) {
        return party(number).purse;
    }

    int penalties() {
        return taken;
    }

    int stateOf(int number) {
        return STATES.indexOf(duty(number).state);
    }

    int daysLeft(int number) {
        return duty(number).left;
    }

    int stoppedFor(int number) {
        return duty(number).stopped;
    }

    int priceOf(int number) {
        return price(duty(number));
    }

    private static int below(Duty duty) {
        int count = 0;
        for (Duty other : duty.hanging) {
            count += 1 + below(other);
        }
        return count;
    }

    int hanging(int number) {
        return below(duty(number));
    }

    int depthOf(int number) {
        int depth = 0;
        for (Duty duty = duty(number); duty.base != null; duty = duty.base) {
            depth++;
        }
        return depth;
    }

    private String text(int number) {
        Duty duty = duty(number);
        String text = duty.debtor + " owes " + duty.amount + " to " + duty.creditor;
        return text + (duty.base == null ? "" : " after " + duty.base.number) + ".";
    }

    int textLength(int number) {
        return text(number).length();
    }

    int sealOf(int number) {
        return text(number).chars().reduce(11, (seal, sign) -> seal * 31 + sign);
    }

    int owes(int number) {
        party(number);
        return duties.stream().filter(d -> d.debtor == number).mapToInt(PlainDesk::price).sum();
    }

    int balance(int one, int other) {
        party(one);
        party(other);
        int sum = 0;
        for (Duty duty : duties) {
            if (duty.debtor == other && duty.creditor == one) {
                sum += price(duty);
            }
            if (duty.debtor == one && duty.creditor == other) {
                sum -= price(duty);
            }
        }
        return sum;
    }

    int weakest() {
        int found = -1;
        for (int party = parties.size() - 1; party >= 0; party--) {
            int beyond = owes(party) - purseOf(party);
            if (beyond > 0 && (found < 0 || beyond >= owes(found) - purseOf(found))) {
                found = party;
            }
        }
        return found;
    }

    int daysUntilFailed(int number) {
        if (duty(number).state.equals("failed")) {
            return -1;
        }
        PlainDesk other = copy();
        for (int days = 1; days <= 60; days++) {
            other.pass(1);
            if (other.duty(number).state.equals("failed")) {
                return days;
            }
        }
        return -1;
    }

    int purseIn(int number, int days) {
        party(number);
        argument(1 <= days && days <= 60);
        PlainDesk other = copy();
        other.pass(days);
        return other.purseOf(number);
    }

    int bestToPay(int number) {
        party(number);
        int none = purseIn(number, 60);
        int best = -1;
        int most = none;
        for (Duty duty : duties) {
            if (duty.debtor == number && duty.open() && party(number).purse >= price(duty)) {
                PlainDesk other = copy();
                other.pay(duty.number);
                int coins = other.purseIn(number, 60);
                if (coins > most) {
                    most = coins;
                    best = duty.number;
                }
            }
        }
        return best;
    }

    double meanPurse() {
        return parties.stream().mapToInt(p -> p.purse).average().orElse(0.0);
    }

    long digest() {
        List<Integer> x = new ArrayList<>(List.of(day(), parties(), duties()));
        for (int state = 0; state <= 5; state++) {
            x.add(inState(state));
        }
        x.add(penalties());
        x.add(weakest());
        for (int party = 0; party < parties(); party++) {
            x.add(purseOf(party));
            x.add(owes(party));
            for (int other = 0; other < parties(); other++) {
                x.add(balance(party, other));
            }
            x.add(purseIn(party, 30));
            x.add(bestToPay(party));
        }
        for (int duty = 0; duty < duties(); duty++) {
            x.addAll(List.of(stateOf(duty), daysLeft(duty), stoppedFor(duty), priceOf(duty)));
            x.addAll(List.of(hanging(duty), depthOf(duty), sealOf(duty), daysUntilFailed(duty)));
        }
        long d = 2269;
        for (int number : x) {
            d = d * 31 + number;
        }
        return d;
    }
}
