/** What is answered where there is nothing to answer, where several are the same, and just beside. */
public final class EdgeAnswersTest {
    private final Edges edges = new Edges();

    private EdgeAnswersTest() {
    }

    public static void main(String[] args) {
        EdgeAnswersTest test = new EdgeAnswersTest();
        test.newObject();
        test.objectsApart();
        test.addsNothingElse();
        test.giveAnswers();
        test.passAnswers();
        test.days();
        test.inStates();
        test.penaltiesInAll();
        test.statesByNumber();
        test.stoppedForNone();
        test.hangingNone();
        test.hangingOver();
        test.depths();
        test.owesNothing();
        test.balanceNothing();
        test.weakestNone();
        test.weakestOfSeveral();
        test.untilFailedAtMost();
        test.untilFailedNever();
        test.untilFailedInTheNext();
        test.purseInBehind();
        test.bestOfNone();
        test.bestNoMore();
        test.bestOfItsOwnCoins();
        test.bestOfSeveral();
        test.bestThatItCan();
        test.bestBehindSixty();
        test.meanOfNone();
        test.meanCut();
        test.digests();
        test.digestOfThirtyDays();
        test.edges.end();
    }

    private void newObject() {
        edges.of("1: Creates a desk without parties and duties, at the day 0");
        PactClocks desk = new PactClocks();
        edges.is("day, parties, duties, penalties, weakest", Edges.row(desk.day(), desk.parties(),
                desk.duties(), desk.penalties(), desk.weakest()), "[0, 0, 0, 0, -1]");
        edges.is("inState", Edges.row(desk.inState(0), desk.inState(1), desk.inState(2),
                desk.inState(3), desk.inState(4), desk.inState(5)), "[0, 0, 0, 0, 0, 0]");
        edges.is("pass(60)", desk.pass(60), 0);
        edges.is("day()", desk.day(), 60);
    }

    private void objectsApart() {
        edges.of("1: a desk of its own, beside others");
        PactClocks one = Desks.eachState();
        String before = Edges.lookOf(one);
        PactClocks other = Desks.full();
        other.pass(60);
        other.give(0, 500);
        other.digest();
        edges.is("the first one", Edges.lookOf(one), before);
    }

    private void addsNothingElse() {
        edges.of("2, 3: a new party owes nothing; a new duty takes no coin");
        PactClocks desk = Desks.eachState();
        String purses = Edges.purses(desk);
        edges.is("addDuty", desk.addDuty(0, 1, 50, 30, 10, 20, -1), 6);
        edges.is("purses", Edges.purses(desk), purses);
        edges.is("addParty", desk.addParty(0), 3);
        edges.is("what it has, owes and is owed", Edges.row(desk.purseOf(3), desk.owes(3),
                desk.balance(3, 0), desk.balance(0, 3)), "[0, 0, 0, 0]");
        edges.is("states", Edges.states(desk), "[1, 0, 2, 3, 4, 5, 1]");
    }

    private void giveAnswers() {
        edges.of("7: Returns how many it has then");
        PactClocks desk = Desks.purses(0, 500);
        edges.is("to an empty purse", desk.give(0, 1), 1);
        edges.is("beyond the purse of a new party", desk.give(1, 1), 501);
        edges.is("as much as can be", desk.give(1, 500), 1001);
        edges.is("purses", Edges.purses(desk), "[1, 1001]");
    }

    private void passAnswers() {
        edges.of("8: Returns how many duties fail in them");
        PactClocks desk = Desks.purses(90, 0);
        desk.addDuty(0, 1, 1, 1, 1, 0, -1);
        desk.addDuty(0, 1, 1, 1, 0, 0, -1);
        desk.addDuty(0, 1, 1, 1, 1, 0, -1);
        desk.addDuty(0, 1, 1, 1, 1, 0, 2);
        edges.is("the first day", desk.pass(1), 1);
        edges.is("the second day, without those released", desk.pass(1), 2);
        edges.is("the third day, without those of before", desk.pass(1), 0);
        edges.is("states", Edges.states(desk), "[4, 4, 4, 5]");
        PactClocks all = Desks.beside(20);
        edges.is("all twenty in 41 days", all.pass(41), 20);
        edges.is("inState(4)", all.inState(4), 20);
    }

    private void days() {
        edges.of("9: Time is told in days, from 0; 2. The day is 1 greater");
        PactClocks desk = new PactClocks();
        int sum = 0;
        for (int days = 1; days <= 60; days++) {
            desk.pass(days);
            sum += days;
            edges.is("day()", desk.day(), sum);
        }
    }

    private void inStates() {
        edges.of("12: Returns how many duties are in it: none, one and as many as there can be");
        int[] found = new int[6];
        PactClocks one = Desks.eachState();
        for (int state = 0; state < 6; state++) {
            found[state] = one.inState(state);
        }
        edges.is("one in each state", Edges.row(found), "[1, 1, 1, 1, 1, 1]");
        PactClocks runs = Desks.beside(20);
        edges.is("twenty that run", Edges.row(runs.inState(0), runs.inState(1)), "[0, 20]");
        PactClocks waits = Desks.chain(20);
        edges.is("nineteen that wait", Edges.row(waits.inState(0), waits.inState(1)), "[19, 1]");
        waits.release(0);
        edges.is("twenty that are released", waits.inState(5), 20);
        PactClocks late = Desks.purses(500, 500);
        for (int duty = 0; duty < 20; duty++) {
            late.addDuty(0, 1, 1, 1, 1, 1, -1);
        }
        late.pass(1);
        edges.is("twenty that are late", late.inState(2), 20);
        for (int duty = 0; duty < 20; duty++) {
            edges.is("inState(3)", late.inState(3), duty);
            late.pay(duty);
        }
        edges.is("twenty that are paid", late.inState(3), 20);
    }

    private void penaltiesInAll() {
        edges.of("14: Returns penalties that were taken in all");
        PactClocks desk = Desks.purses(25, 0);
        desk.addDuty(0, 1, 1, 1, 0, 20, -1);
        desk.addDuty(0, 1, 1, 1, 0, 20, -1);
        desk.addDuty(0, 1, 1, 1, 0, 20, -1);
        desk.addDuty(1, 0, 1, 2, 0, 7, -1);
        desk.addDuty(1, 0, 1, 2, 1, 8, -1);
        edges.is("at first", desk.penalties(), 0);
        desk.pass(1);
        edges.is("20, then the 5 that are left, then none", desk.penalties(), 25);
        desk.pass(1);
        edges.is("and of the other one", desk.penalties(), 32);
        desk.pay(4);
        desk.pass(60);
        edges.is("nothing of what was paid late", desk.penalties(), 32);
    }

    private void statesByNumber() {
        edges.of("15: States: 0 waits, 1 runs, 2 late, 3 paid, 4 failed, 5 released");
        edges.is("one in each state", Edges.states(Desks.eachState()), "[1, 0, 2, 3, 4, 5]");
    }

    private void stoppedForNone() {
        edges.of("17: Returns for how many days its clock stands still; 0 if it does not");
        PactClocks desk = Desks.eachState();
        int[] want = {3, 0, 2, 0, 0, 0};
        for (int duty = 0; duty < 6; duty++) {
            edges.is("in the state " + desk.stateOf(duty), desk.stoppedFor(duty), want[duty]);
        }
        desk.pay(0);
        edges.is("of one that was stopped as it was paid", desk.stoppedFor(0), 0);
        edges.is("of one that begins then", desk.stoppedFor(1), 0);
        desk.pass(2);
        edges.is("as it goes on", desk.stoppedFor(2), 0);
        PactClocks other = Desks.eachState();
        other.release(0);
        other.release(2);
        edges.is("of one that was stopped as it was released", other.stoppedFor(0), 0);
        edges.is("of one that was late, stopped and released", other.stoppedFor(2), 0);
        other.pass(1);
        edges.is("a day behind that", other.stoppedFor(0), 0);
        desk.pass(9);
        edges.is("of one that has failed since it stood still", desk.stoppedFor(2), 0);
    }

    private void hangingNone() {
        edges.of("19: Returns how many duties hang on it, on these, and so on: none, one, all");
        edges.is("none", Desks.beside(20).hanging(0), 0);
        edges.is("one", Desks.chain(2).hanging(0), 1);
        edges.is("all, in a chain", Desks.chain(20).hanging(0), 19);
        edges.is("all, in a star", Desks.star(20).hanging(0), 19);
        PactClocks tree = Desks.purses(9, 9);
        int[] after = {-1, -1, 0, 1, 2, 3, 2, 3, 0, 5};
        int[] want = {4, 4, 2, 3, 0, 1, 0, 0, 0, 0};
        for (int base : after) {
            tree.addDuty(0, 1, 1, 9, 9, 0, base);
        }
        for (int duty = 0; duty < want.length; duty++) {
            edges.is("in two trees, on " + duty, tree.hanging(duty), want[duty]);
        }
    }

    private void hangingOver() {
        edges.of("19, 20: those that hang on it do so in each state");
        PactClocks desk = Desks.chain(6);
        desk.pay(0);
        desk.release(3);
        desk.pass(60);
        edges.is("states", Edges.states(desk), "[3, 4, 5, 5, 5, 5]");
        for (int duty = 0; duty < 6; duty++) {
            edges.is("hanging and depth", Edges.row(desk.hanging(duty), desk.depthOf(duty)),
                    Edges.row(5 - duty, duty));
        }
    }

    private void depths() {
        edges.of("20: 0 if on none, otherwise 1 more than the one on which it hangs");
        PactClocks desk = Desks.purses(9, 9);
        int[] after = {-1, -1, 0, 1, 2, 3, 2, 3, 0, 5};
        int[] want = {0, 0, 1, 1, 2, 2, 2, 2, 1, 3};
        for (int base : after) {
            desk.addDuty(0, 1, 1, 9, 9, 0, base);
        }
        for (int duty = 0; duty < want.length; duty++) {
            edges.is("depthOf(" + duty + ")", desk.depthOf(duty), want[duty]);
        }
        edges.is("the deepest", Desks.chain(20).depthOf(19), 19);
    }

    private void owesNothing() {
        edges.of("23: Returns the prices of all its duties that run or are late, added");
        edges.is("without duties", Desks.purses(5).owes(0), 0);
        edges.is("what others owe it alone", Desks.beside(20).owes(1), 0);
        PactClocks desk = Desks.eachState();
        edges.is("of each state", Edges.row(desk.owes(0), desk.owes(1), desk.owes(2)), "[10, 0, 16]");
        edges.is("twenty", Desks.beside(20).owes(0), 210);
    }

    private void balanceNothing() {
        edges.of("24: Returns what the other one owes the first one, less what the first one owes the "
                + "other one so; 0 for the same");
        edges.is("without duties", Desks.purses(5, 5).balance(0, 1), 0);
        PactClocks desk = Desks.eachState();
        edges.is("by one that runs", Edges.row(desk.balance(1, 0), desk.balance(0, 1)), "[10, -10]");
        edges.is("by one that is late", Edges.row(desk.balance(0, 2), desk.balance(2, 0)), "[16, -16]");
        edges.is("by one that waits", Edges.row(desk.balance(2, 1), desk.balance(1, 2)), "[0, 0]");
        for (int party = 0; party < 3; party++) {
            edges.is("of itself", desk.balance(party, party), 0);
        }
        PactClocks even = Desks.purses(5, 5);
        even.addDuty(0, 1, 7, 9, 9, 0, -1);
        even.addDuty(1, 0, 7, 9, 9, 0, -1);
        edges.is("of as much", Edges.row(even.balance(0, 1), even.balance(1, 0)), "[0, 0]");
    }

    private void weakestNone() {
        edges.of("25: -1 if none owes more than it has");
        edges.is("without parties", new PactClocks().weakest(), -1);
        edges.is("of one with nothing", Desks.purses(0).weakest(), -1);
        int[] purses = {29, 30, 31};
        int[] want = {0, -1, -1};
        for (int i = 0; i < purses.length; i++) {
            PactClocks desk = Desks.purses(purses[i], 0);
            desk.addDuty(0, 1, 30, 9, 9, 9, -1);
            edges.is("of one that owes 30 and has " + purses[i], desk.weakest(), want[i]);
        }
    }

    private void weakestOfSeveral() {
        edges.of("25: the party that owes the most beyond its purse, of several the smallest number");
        PactClocks desk = Desks.purses(0, 0, 0, 0, 0, 0);
        for (int party = 5; party >= 0; party--) {
            desk.addDuty(party, (party + 1) % 6, 10, 9, 9, 0, -1);
            edges.is("of the same down to " + party, desk.weakest(), party);
        }
        desk.give(0, 1);
        edges.is("as the first owes less beyond", desk.weakest(), 1);
        desk.addDuty(5, 0, 1, 9, 9, 0, -1);
        edges.is("as the last owes a coin more", desk.weakest(), 5);
        PactClocks rich = Desks.purses(500, 0);
        rich.addDuty(0, 1, 50, 9, 9, 0, -1);
        rich.addDuty(1, 0, 1, 9, 9, 0, -1);
        edges.is("not the one that owes more, but has it", rich.weakest(), 1);
    }

    private void untilFailedAtMost() {
        edges.of("26: Returns in how many days it fails: at most 60");
        PactClocks desk = Desks.purses(90, 0);
        desk.addDuty(0, 1, 1, 30, 10, 1, -1);
        desk.stop(0, 20);
        for (int days = 60; days >= 1; days--) {
            edges.is("daysUntilFailed", desk.daysUntilFailed(0), days);
            edges.is("pass(1)", desk.pass(1), days == 1 ? 1 : 0);
        }
        edges.is("behind its failing", desk.daysUntilFailed(0), -1);
        PactClocks late = Desks.purses(90, 0);
        late.addDuty(0, 1, 1, 30, 10, 1, -1);
        late.pass(30);
        late.stop(0, 20);
        edges.is("of one that is late and stopped", late.daysUntilFailed(0), 30);
        late.pass(29);
        late.stop(0, 20);
        edges.is("stopped on the last day", late.daysUntilFailed(0), 21);
    }

    private void untilFailedNever() {
        edges.of("26: -1 if not by then, or if it is failed already");
        PactClocks desk = Desks.eachState();
        int[] want = {41, -1, 12, -1, -1, -1};
        for (int duty = 0; duty < 6; duty++) {
            edges.is("in the state " + desk.stateOf(duty), desk.daysUntilFailed(duty), want[duty]);
        }
        PactClocks waits = Desks.purses(90, 0);
        waits.addDuty(0, 1, 1, 1, 0, 1, -1);
        waits.addDuty(0, 1, 1, 1, 0, 1, 0);
        edges.is("one that is released as the other one fails", waits.daysUntilFailed(1), -1);
    }

    private void untilFailedInTheNext() {
        edges.of("26: 1 if in the next one");
        PactClocks desk = Desks.purses(90, 0);
        desk.addDuty(0, 1, 1, 1, 0, 1, -1);
        desk.addDuty(0, 1, 1, 1, 1, 1, -1);
        desk.addDuty(0, 1, 1, 2, 0, 1, -1);
        edges.is("without a day to cure", desk.daysUntilFailed(0), 1);
        edges.is("with a day to cure", desk.daysUntilFailed(1), 2);
        edges.is("with a day more", desk.daysUntilFailed(2), 2);
        desk.stop(0, 1);
        edges.is("stopped for a day", desk.daysUntilFailed(0), 2);
        desk.pass(1);
        edges.is("late on its last day", desk.daysUntilFailed(1), 1);
    }

    private void purseInBehind() {
        edges.of("27: Returns the coins of the party behind them, if nothing is done by hand");
        edges.is("without duties", Desks.purses(7).purseIn(0, 60), 7);
        for (int days = 1; days <= 60; days++) {
            PactClocks desk = Desks.beside(20);
            desk.addParty(3);
            int[] told = {desk.purseIn(0, days), desk.purseIn(1, days), desk.purseIn(2, days)};
            desk.pass(days);
            edges.is("behind " + days, Edges.purses(desk), Edges.row(told));
        }
    }

    private void bestOfNone() {
        edges.of("28: -1 if there is none");
        edges.is("without duties", Desks.purses(7).bestToPay(0), -1);
        edges.is("with those of others alone", Desks.beside(20).bestToPay(1), -1);
        PactClocks over = Desks.beside(20);
        over.pass(60);
        edges.is("with those that are over", over.bestToPay(0), -1);
        PactClocks waits = Desks.purses(90, 90);
        waits.addDuty(1, 0, 1, 9, 9, 0, -1);
        waits.addDuty(0, 1, 1, 9, 9, 20, 0);
        edges.is("with one that waits", waits.bestToPay(0), -1);
    }

    private void bestNoMore() {
        edges.of("28: -1 if it has no more by any than by none");
        int[] penalties = {9, 10, 11};
        int[] want = {-1, -1, 0};
        for (int i = 0; i < penalties.length; i++) {
            PactClocks desk = Desks.purses(90, 0);
            desk.addDuty(0, 1, 10, 9, 9, penalties[i], -1);
            edges.is("of 10 with a penalty of " + penalties[i], desk.bestToPay(0), want[i]);
        }
        int[] late = {18, 19, 20};
        int[] wantLate = {-1, 0, 0};
        for (int i = 0; i < late.length; i++) {
            PactClocks desk = Desks.purses(90, 0);
            desk.addDuty(0, 1, 9, 1, 9, late[i], -1);
            desk.pass(1);
            edges.is("of 9, late, with a penalty of " + late[i], desk.bestToPay(0), wantLate[i]);
        }
    }

    private void bestOfItsOwnCoins() {
        edges.of("28: so that it has the most coins: it, not another party");
        PactClocks poor = Desks.purses(500, 30, 90);
        poor.addDuty(1, 2, 10, 9, 9, 11, -1);
        edges.is("as it has less than another one, either way", poor.bestToPay(1), 0);
        edges.is("of the others", Edges.row(poor.bestToPay(0), poor.bestToPay(2)), "[-1, -1]");
        PactClocks rich = Desks.purses(0, 500, 90);
        rich.addDuty(1, 2, 10, 9, 9, 9, -1);
        edges.is("as it has more than another one, either way", rich.bestToPay(1), -1);
    }

    private void bestOfSeveral() {
        edges.of("28: of several the smallest number");
        PactClocks desk = Desks.purses(500, 0);
        for (int duty = 0; duty < 20; duty++) {
            desk.addDuty(0, 1, 1, 9, 9, 15, -1);
        }
        for (int duty = 0; duty < 20; duty++) {
            edges.is("bestToPay", desk.bestToPay(0), duty);
            desk.pay(duty);
        }
        edges.is("as all are paid", desk.bestToPay(0), -1);
        PactClocks two = Desks.purses(500, 0);
        two.addDuty(0, 1, 1, 9, 9, 14, -1);
        two.addDuty(0, 1, 2, 9, 9, 16, -1);
        two.addDuty(0, 1, 3, 9, 9, 17, -1);
        edges.is("of which two save 14", two.bestToPay(0), 1);
    }

    private void bestThatItCan() {
        edges.of("28: of those that it can");
        int[] purses = {29, 30, 31};
        int[] want = {1, 0, 0};
        for (int i = 0; i < purses.length; i++) {
            PactClocks desk = Desks.purses(purses[i], 90);
            desk.addDuty(0, 1, 30, 1, 0, 0, -1);
            desk.addDuty(0, 1, 1, 9, 9, 2, -1);
            desk.addDuty(1, 0, 50, 8, 8, 20, 0);
            desk.addDuty(1, 0, 50, 8, 8, 20, 0);
            edges.is("with " + purses[i] + " of 30", desk.bestToPay(0), want[i]);
        }
    }

    private void bestBehindSixty() {
        edges.of("28: so that it has the most coins behind 60 days, if nothing else is done");
        PactClocks last = Desks.purses(90, 0);
        last.addDuty(0, 1, 1, 30, 10, 2, -1);
        last.stop(0, 20);
        edges.is("as it would fail in 60 days", last.bestToPay(0), 0);
        PactClocks gets = Desks.purses(90, 90);
        gets.addDuty(0, 1, 19, 9, 9, 0, -1);
        gets.addDuty(1, 0, 50, 30, 10, 20, 0);
        edges.is("as what begins fails in 40 days", gets.bestToPay(0), 0);
        PactClocks next = Desks.purses(90, 90);
        next.addDuty(0, 1, 1, 9, 9, 0, -1);
        next.addDuty(1, 0, 1, 9, 9, 0, 0);
        next.addDuty(1, 0, 1, 1, 0, 20, 1);
        edges.is("as what would begin next does not begin", next.bestToPay(0), -1);
    }

    private void meanOfNone() {
        edges.of("29: Returns the mean of coins that parties have; 0 without any");
        edges.is("without parties", new PactClocks().meanPurse(), 0.0);
        edges.is("of one with nothing", Desks.purses(0).meanPurse(), 0.0);
        edges.is("of one with 500", Desks.purses(500).meanPurse(), 500.0);
        edges.is("of six with 500", Desks.purses(500, 500, 500, 500, 500, 500).meanPurse(), 500.0);
    }

    private void meanCut() {
        edges.of("29: the mean is not cut");
        for (int parties = 1; parties <= 6; parties++) {
            for (int coins = 0; coins <= 500; coins += 71) {
                int[] purses = new int[parties];
                purses[parties - 1] = coins;
                edges.is(coins + " of " + parties, Desks.purses(purses).meanPurse(),
                        coins / (double) parties);
            }
        }
        edges.is("1 of 2", Desks.purses(0, 1).meanPurse(), 0.5);
        edges.is("2 of 3", Desks.purses(0, 1, 1).meanPurse(), 0.6666666666666666);
        edges.is("499 of 6", Desks.purses(0, 1, 0, 0, 498, 0).meanPurse(), 83.16666666666667);
    }

    private void digests() {
        edges.of("30: A number d starts with 2269, and wraps around as a 64-bit integer");
        edges.is("without parties", new PactClocks().digest(),
                Seals.folded(0, 0, 0, 0, 0, 0, 0, 0, 0, 0, -1));
        edges.is("of one party", Desks.purses(7).digest(),
                Seals.folded(0, 1, 0, 0, 0, 0, 0, 0, 0, 0, -1, 7, 0, 0, 7, -1));
        edges.is("of one that runs", Desks.beside(1).digest(),
                Seals.folded(0, 2, 1, 0, 1, 0, 0, 0, 0, 0, -1,
                        500, 1, 0, -1, 500, -1, 500, 0, 1, 0, 500, -1,
                        1, 30, 1, 1, 0, 0, Seals.of("0 owes 1 to 1."), 31));
    }

    private void digestOfThirtyDays() {
        edges.of("30: purseIn() of 30 days");
        int[] stops = {0, 1};
        int[] coins = {7, 9};
        for (int i = 0; i < stops.length; i++) {
            PactClocks desk = Desks.purses(9, 0);
            desk.addDuty(0, 1, 3, 30, 0, 2, -1);
            desk.stop(0, stops[i]);
            edges.is("as one fails in " + (30 + stops[i]), desk.digest(),
                    Seals.folded(0, 2, 1, 0, 1, 0, 0, 0, 0, 0, -1,
                            9, 3, 0, -3, coins[i], -1, 0, 0, 3, 0, 9 - coins[i], -1,
                            1, 30, stops[i], 3, 0, 0, Seals.of("0 owes 3 to 1."), 30 + stops[i]));
        }
    }
}
