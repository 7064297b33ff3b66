/** The sentences under "Terms": states, prices, paying, failing, releasing, clocks, days, texts. */
public final class EdgeTermsTest {
    private final Edges edges = new Edges();

    private EdgeTermsTest() {
    }

    public static void main(String[] args) {
        EdgeTermsTest test = new EdgeTermsTest();
        test.cutTowardsZero();
        test.partiesAtMost();
        test.dutiesAtMost();
        test.smallerNumber();
        test.newDuty();
        test.wholeTime();
        test.daysLeft();
        test.price();
        test.pricePaid();
        test.payingWhatHangs();
        test.penaltyTaken();
        test.purseNeverBelowZero();
        test.failingWhatHangs();
        test.releasingWhatHangs();
        test.stopped();
        test.stoppedToTheLastDay();
        test.nothingElse();
        test.lateFromTheLastDay();
        test.withoutADayToCure();
        test.byNumbers();
        test.text();
        test.edges.end();
    }

    private void cutTowardsZero() {
        edges.of("/ is cut towards 0: half of the penalty more, cut");
        int[] penalties = {0, 1, 2, 3, 18, 19, 20};
        int[] halves = {0, 0, 1, 1, 9, 9, 10};
        for (int i = 0; i < penalties.length; i++) {
            PactClocks desk = Desks.purses(90, 0);
            desk.addDuty(0, 1, 7, 1, 9, penalties[i], -1);
            desk.pass(1);
            edges.is("price with a penalty of " + penalties[i], desk.priceOf(0), 7 + halves[i]);
            edges.is("and paid", desk.pay(0), 7 + halves[i]);
        }
    }

    private void partiesAtMost() {
        edges.of("Parties. At most 6, numbered from 0 (2: Throws IllegalStateException if there are 6)");
        PactClocks desk = new PactClocks();
        edges.is("parties() at first", desk.parties(), 0);
        for (int party = 0; party < 6; party++) {
            edges.is("addParty", desk.addParty(party), party);
            edges.is("parties()", desk.parties(), party + 1);
        }
        edges.is("purses", Edges.purses(desk), "[0, 1, 2, 3, 4, 5]");
        int[] purses = {0, 250, 500};
        for (int purse : purses) {
            edges.refuses(Edges.STATE, "a seventh party", () -> Desks.ring(6),
                    other -> other.addParty(purse));
        }
    }

    private void dutiesAtMost() {
        edges.of("Duties. At most 20, numbered likewise (3: Throws IllegalStateException if there are 20)");
        PactClocks desk = Desks.purses(5, 5);
        edges.is("duties() at first", desk.duties(), 0);
        for (int duty = 0; duty < 20; duty++) {
            edges.is("addDuty", desk.addDuty(0, 1, 1, 1, 0, 0, -1), duty);
            edges.is("duties()", desk.duties(), duty + 1);
        }
        edges.refuses(Edges.STATE, "one more beside twenty", () -> Desks.beside(20),
                other -> other.addDuty(1, 0, 1, 1, 0, 0, -1));
        edges.refuses(Edges.STATE, "one more behind twenty", () -> Desks.chain(20),
                other -> other.addDuty(1, 0, 1, 1, 0, 0, 19));
        edges.refuses(Edges.STATE, "one more when twenty are over", () -> {
            PactClocks over = Desks.beside(20);
            over.pass(60);
            return over;
        }, other -> other.addDuty(1, 0, 1, 1, 0, 0, -1));
    }

    private void smallerNumber() {
        edges.of("it may hang on a duty with a smaller number");
        for (int count = 0; count < 20; count++) {
            int own = count;
            edges.refuses(Edges.INDEX, own + " on itself", () -> Desks.chain(own),
                    desk -> desk.addDuty(0, 1, 1, 1, 1, 1, own));
        }
        for (int after = 0; after < 19; after++) {
            PactClocks desk = Desks.chain(19);
            edges.is("the last one after " + after, desk.addDuty(0, 1, 1, 1, 1, 1, after), 19);
            edges.is("its depth", desk.depthOf(19), after + 1);
            edges.is("on that", desk.hanging(after), 18 - after + 1);
        }
    }

    private void newDuty() {
        edges.of("A new duty waits, if the one on which it hangs waits, runs or is late; "
                + "otherwise it runs, with its whole time");
        String waits = "[0, 0, 0, 0]";
        String runs = "[1, 30, 0, 50]";
        String[] want = {waits, waits, waits, runs};
        int[] bases = {1, 0, 2, 3};
        for (int i = 0; i < bases.length; i++) {
            PactClocks desk = Desks.eachState();
            desk.addDuty(0, 1, 50, 30, 10, 20, bases[i]);
            edges.is("after one in the state " + desk.stateOf(bases[i]), clock(desk, 6), want[i]);
        }
        PactClocks desk = Desks.eachState();
        desk.addDuty(0, 1, 50, 30, 10, 20, -1);
        edges.is("after none", clock(desk, 6), runs);
        edges.refuses(Edges.STATE, "after one that is failed", Desks::eachState,
                other -> other.addDuty(0, 1, 50, 30, 10, 20, 4));
        edges.refuses(Edges.STATE, "after one that is released", Desks::eachState,
                other -> other.addDuty(0, 1, 50, 30, 10, 20, 5));
    }

    private static String clock(PactClocks desk, int duty) {
        return Edges.row(desk.stateOf(duty), desk.daysLeft(duty), desk.stoppedFor(duty),
                desk.priceOf(duty));
    }

    private void wholeTime() {
        edges.of("One that begins to run has its whole time, too");
        int[] times = {1, 2, 30};
        for (int days : times) {
            PactClocks desk = Desks.purses(90, 90);
            desk.addDuty(0, 1, 1, 30, 10, 0, -1);
            desk.addDuty(1, 0, 2, days, 0, 3, 0);
            desk.pass(39);
            edges.is("as it waits", clock(desk, 1), "[0, 0, 0, 0]");
            desk.pay(0);
            edges.is("as it begins", clock(desk, 1), Edges.row(1, days, 0, 2));
            edges.is("until it fails", desk.daysUntilFailed(1), days);
        }
    }

    private void daysLeft() {
        edges.of("Days left: of one that runs those to pay, of one that is late those to cure; 0 otherwise");
        PactClocks desk = Desks.eachState();
        int[] want = {28, 0, 10, 0, 0, 0};
        for (int duty = 0; duty < 6; duty++) {
            edges.is("daysLeft in the state " + desk.stateOf(duty), desk.daysLeft(duty), want[duty]);
        }
        PactClocks counted = Desks.purses(9, 9);
        counted.addDuty(0, 1, 1, 3, 2, 1, -1);
        int[] days = {3, 2, 1, 2, 1, 0, 0};
        for (int day = 0; day < days.length; day++) {
            edges.is("daysLeft behind " + day, counted.daysLeft(0), days[day]);
            counted.pass(1);
        }
    }

    private void price() {
        edges.of("Its price: the amount if it runs, and half of the penalty more, cut, if it is late; "
                + "0 otherwise");
        PactClocks desk = Desks.eachState();
        int[] want = {10, 0, 16, 0, 0, 0};
        for (int duty = 0; duty < 6; duty++) {
            edges.is("priceOf in the state " + desk.stateOf(duty), desk.priceOf(duty), want[duty]);
        }
        PactClocks least = Desks.purses(9, 9);
        least.addDuty(0, 1, 1, 1, 1, 0, -1);
        edges.is("the least that runs", least.priceOf(0), 1);
        least.pass(1);
        edges.is("the least that is late", least.priceOf(0), 1);
        PactClocks most = Desks.purses(9, 9);
        most.addDuty(0, 1, 50, 1, 1, 20, -1);
        edges.is("the greatest that runs", most.priceOf(0), 50);
        most.pass(1);
        edges.is("the greatest that is late", most.priceOf(0), 60);
    }

    /** One that owes 30, with a penalty of 11: 35 if it is late. */
    private static PactClocks owing(int purse, boolean late) {
        PactClocks desk = Desks.purses(purse, 7);
        desk.addDuty(0, 1, 30, late ? 1 : 5, 5, 11, -1);
        desk.pass(1);
        return desk;
    }

    private void pricePaid() {
        edges.of("Paying it: the price goes from the debtor to the creditor "
                + "(4: Throws IllegalStateException if the debtor has fewer coins)");
        PactClocks just = owing(30, false);
        edges.is("with 30 of 30", just.pay(0), 30);
        edges.is("purses", Edges.purses(just), "[0, 37]");
        PactClocks more = owing(31, false);
        edges.is("with 31 of 30", more.pay(0), 30);
        edges.is("purses", Edges.purses(more), "[1, 37]");
        PactClocks late = owing(35, true);
        edges.is("with 35 of 35", late.pay(0), 35);
        edges.is("purses", Edges.purses(late), "[0, 42]");
        edges.is("state, and no penalty", Edges.row(late.stateOf(0), late.penalties()), "[3, 0]");
        int[] fewer = {29, 1, 0};
        for (int purse : fewer) {
            edges.refuses(Edges.STATE, "pay with " + purse + " of 30", () -> owing(purse, false),
                    desk -> desk.pay(0));
        }
        int[] fewerLate = {34, 30, 0};
        for (int purse : fewerLate) {
            edges.refuses(Edges.STATE, "pay with " + purse + " of 35", () -> owing(purse, true),
                    desk -> desk.pay(0));
        }
    }

    private void payingWhatHangs() {
        edges.of("Paying it: it is paid; each duty that hangs on it and waits begins to run");
        PactClocks none = Desks.beside(3);
        none.pay(1);
        edges.is("on which none hangs", Edges.states(none), "[1, 3, 1]");
        PactClocks one = Desks.chain(3);
        one.pay(0);
        edges.is("on which one hangs, and one on that", Edges.states(one), "[3, 1, 0]");
        PactClocks most = Desks.star(20);
        most.pay(0);
        edges.is("on which nineteen hang", Edges.states(most),
                "[3, 1, 1, 1, 1, 1, 1, 1, 1, 1, 1, 1, 1, 1, 1, 1, 1, 1, 1, 1]");
        PactClocks released = Desks.star(4);
        released.release(2);
        released.pay(0);
        edges.is("on which one hung that is released", Edges.states(released), "[3, 1, 5, 1]");
        PactClocks last = Desks.beside(19);
        last.addDuty(0, 1, 1, 17, 1, 1, 18);
        last.pay(18);
        edges.is("the last but one, on which the last hangs", clock(last, 19), "[1, 17, 0, 1]");
        PactClocks late = Desks.purses(90, 0);
        late.addDuty(0, 1, 9, 1, 1, 0, -1);
        late.addDuty(0, 1, 9, 4, 1, 0, 0);
        late.pass(1);
        late.pay(0);
        edges.is("one that is late, on which one hangs", clock(late, 1), "[1, 4, 0, 9]");
    }

    private void penaltyTaken() {
        edges.of("Failing: the penalty, or as many coins as the debtor has, if these are fewer, "
                + "go from the debtor to the creditor");
        int[] purses = {0, 1, 19, 20, 21, 500};
        int[] taken = {0, 1, 19, 20, 20, 20};
        for (int i = 0; i < purses.length; i++) {
            PactClocks desk = Desks.purses(purses[i], 3);
            desk.addDuty(0, 1, 50, 1, 0, 20, -1);
            edges.is("pass(1)", desk.pass(1), 1);
            edges.is("purses of one with " + purses[i], Edges.purses(desk),
                    Edges.row(purses[i] - taken[i], 3 + taken[i]));
            edges.is("penalties() of one with " + purses[i], desk.penalties(), taken[i]);
        }
        PactClocks without = Desks.purses(9, 3);
        without.addDuty(0, 1, 50, 1, 0, 0, -1);
        edges.is("without a penalty", without.pass(1), 1);
        edges.is("purses", Edges.purses(without), "[9, 3]");
        edges.is("penalties()", without.penalties(), 0);
    }

    private void purseNeverBelowZero() {
        edges.of("each has a purse of coins, 0 or more");
        PactClocks desk = Desks.purses(30, 0);
        for (int duty = 0; duty < 3; duty++) {
            desk.addDuty(0, 1, 1, 1, 0, 20, -1);
        }
        desk.pass(1);
        edges.is("behind penalties of 60", Edges.purses(desk), "[0, 30]");
        desk.addDuty(1, 0, 30, 1, 0, 0, -1);
        edges.is("pay with all coins", desk.pay(3), 30);
        edges.is("purses", Edges.purses(desk), "[30, 0]");
        edges.is("give to none", desk.give(1, 1), 1);
    }

    private void failingWhatHangs() {
        edges.of("it is failed; each duty that hangs on it and waits is released, and likewise those "
                + "that hang on this one, and so on");
        PactClocks none = Desks.purses(90, 0);
        none.addDuty(0, 1, 1, 1, 0, 1, -1);
        none.addDuty(0, 1, 1, 2, 0, 1, -1);
        edges.is("on which none hangs", none.pass(1), 1);
        edges.is("states", Edges.states(none), "[4, 1]");
        PactClocks chain = Desks.chain(20);
        edges.is("a chain, a day before", chain.pass(11), 0);
        edges.is("a chain", chain.pass(1), 1);
        edges.is("states", Edges.states(chain),
                "[4, 5, 5, 5, 5, 5, 5, 5, 5, 5, 5, 5, 5, 5, 5, 5, 5, 5, 5, 5]");
        edges.is("penalties()", chain.penalties(), 5);
        PactClocks star = Desks.star(20);
        edges.is("a star", star.pass(12), 1);
        edges.is("states", Edges.states(star),
                "[4, 5, 5, 5, 5, 5, 5, 5, 5, 5, 5, 5, 5, 5, 5, 5, 5, 5, 5, 5]");
        PactClocks half = Desks.chain(6);
        half.pay(0);
        half.pass(3);
        half.addDuty(0, 1, 1, 30, 1, 1, 0);
        half.addDuty(0, 1, 1, 30, 1, 1, 6);
        edges.is("a chain of which the first is paid", half.pass(9), 1);
        edges.is("states", Edges.states(half), "[3, 4, 5, 5, 5, 5, 1, 0]");
        edges.is("inState(5)", half.inState(5), 4);
    }

    private void releasingWhatHangs() {
        edges.of("Releasing: it is released, and those that hang on it and wait likewise "
                + "(5: Returns how many duties are released by this)");
        PactClocks none = Desks.beside(3);
        edges.is("on which none hangs", none.release(1), 1);
        edges.is("states", Edges.states(none), "[1, 5, 1]");
        for (int duty = 0; duty < 20; duty++) {
            PactClocks chain = Desks.chain(20);
            edges.is("in a chain, from " + duty, chain.release(duty), 20 - duty);
            edges.is("inState(5)", chain.inState(5), 20 - duty);
            edges.is("inState(0)", chain.inState(0), duty == 0 ? 0 : duty - 1);
        }
        edges.is("on which nineteen hang", Desks.star(20).release(0), 20);
        PactClocks twice = Desks.chain(6);
        edges.is("the end of a chain", twice.release(4), 2);
        edges.is("the rest of it", twice.release(0), 4);
        PactClocks begun = Desks.star(4);
        begun.pay(0);
        edges.is("one that has begun", begun.release(2), 1);
        edges.is("states", Edges.states(begun), "[3, 1, 5, 1]");
        edges.is("no coin goes", Edges.purses(begun), "[499, 501]");
    }

    private void stopped() {
        edges.of("A clock of a duty that runs or is late can be stopped for some days; it stands still then");
        int[] stops = {0, 1, 20};
        for (int days : stops) {
            PactClocks runs = Desks.purses(90, 0);
            runs.addDuty(0, 1, 1, 2, 2, 1, -1);
            runs.stop(0, days);
            for (int day = 0; day < days; day++) {
                edges.is("as it stands still", clock(runs, 0), Edges.row(1, 2, days - day, 1));
                runs.pass(1);
            }
            edges.is("as it goes on", clock(runs, 0), "[1, 2, 0, 1]");
            runs.pass(2);
            edges.is("as it is late", clock(runs, 0), "[2, 2, 0, 1]");
            runs.stop(0, days);
            for (int day = 0; day < days; day++) {
                edges.is("as it stands still late", clock(runs, 0), Edges.row(2, 2, days - day, 1));
                runs.pass(1);
            }
            edges.is("as it goes on late", clock(runs, 0), "[2, 2, 0, 1]");
            edges.is("pass(2)", runs.pass(2), 1);
        }
    }

    private void stoppedToTheLastDay() {
        edges.of("6: Stops the clock of a duty, in the place of what was left");
        PactClocks desk = Desks.purses(90, 0);
        desk.addDuty(0, 1, 1, 1, 0, 1, -1);
        for (int day = 0; day < 100; day++) {
            edges.is("stop each day", desk.stop(0, 1), 0);
            edges.is("pass(1)", desk.pass(1), 0);
        }
        edges.is("behind 100 days", clock(desk, 0), "[1, 1, 0, 1]");
        edges.is("stop for 20", desk.stop(0, 20), 0);
        edges.is("stop for 20 again, not for 40", desk.stop(0, 20), 20);
        edges.is("pass(20)", desk.pass(20), 0);
        edges.is("stop for 20", desk.stop(0, 20), 0);
        edges.is("let it go on", desk.stop(0, 0), 20);
        edges.is("let it go on again", desk.stop(0, 0), 0);
        edges.is("pass(1)", desk.pass(1), 1);
    }

    private void nothingElse() {
        edges.of("if its clock stands still, it does so for a day less, and nothing else");
        PactClocks desk = Desks.purses(90, 0);
        desk.addDuty(0, 1, 1, 1, 0, 1, -1);
        desk.addDuty(0, 1, 1, 1, 1, 1, -1);
        desk.stop(0, 1);
        edges.is("the day on which it still stands", desk.pass(1), 0);
        edges.is("one stopped, one not", clock(desk, 0) + clock(desk, 1), "[1, 1, 0, 1][2, 1, 0, 1]");
        desk.stop(1, 1);
        edges.is("the day behind it", desk.pass(1), 1);
        edges.is("one not, one stopped", clock(desk, 0) + clock(desk, 1), "[4, 0, 0, 0][2, 1, 0, 1]");
        edges.is("the last day", desk.pass(1), 1);
    }

    private void lateFromTheLastDay() {
        edges.of("With none left, one that runs is late, and has its days to cure; "
                + "one that was late fails");
        int[] times = {1, 30};
        int[] cures = {1, 10};
        for (int days : times) {
            for (int cure : cures) {
                PactClocks desk = Desks.purses(90, 0);
                desk.addDuty(0, 1, 1, days, cure, 4, -1);
                for (int day = 1; day < days; day++) {
                    desk.pass(1);
                    edges.is("runs", clock(desk, 0), Edges.row(1, days - day, 0, 1));
                }
                for (int day = 0; day < cure; day++) {
                    edges.is("pass(1)", desk.pass(1), 0);
                    edges.is("late", clock(desk, 0), Edges.row(2, cure - day, 0, 3));
                }
                edges.is("the last day", desk.pass(1), 1);
                edges.is("failed", clock(desk, 0), "[4, 0, 0, 0]");
                edges.is("day()", desk.day(), days + cure);
            }
        }
    }

    private void withoutADayToCure() {
        edges.of("one that is late then without a day to cure fails");
        int[] times = {1, 2, 30};
        for (int days : times) {
            PactClocks desk = Desks.purses(90, 0);
            desk.addDuty(0, 1, 1, days, 0, 4, -1);
            if (days > 1) {
                edges.is("pass up to the day before", desk.pass(days - 1), 0);
            }
            edges.is("runs", clock(desk, 0), "[1, 1, 0, 1]");
            edges.is("daysUntilFailed", desk.daysUntilFailed(0), 1);
            edges.is("the last day", desk.pass(1), 1);
            edges.is("failed", clock(desk, 0), "[4, 0, 0, 0]");
            edges.is("inState(2)", desk.inState(2), 0);
        }
    }

    private void byNumbers() {
        edges.of("Each duty, by numbers");
        PactClocks up = Desks.purses(20, 0, 0);
        up.addDuty(0, 1, 1, 1, 0, 20, -1);
        up.addDuty(1, 2, 1, 1, 0, 20, -1);
        up.pass(1);
        edges.is("what came from a smaller number goes on", Edges.purses(up), "[0, 0, 20]");
        PactClocks down = Desks.purses(20, 0, 0);
        down.addDuty(1, 2, 1, 1, 0, 20, -1);
        down.addDuty(0, 1, 1, 1, 0, 20, -1);
        down.pass(1);
        edges.is("what comes from a greater number stays", Edges.purses(down), "[0, 20, 0]");
        PactClocks shared = Desks.purses(30, 0, 0);
        shared.addDuty(0, 1, 1, 1, 0, 20, -1);
        shared.addDuty(0, 2, 1, 1, 0, 20, -1);
        shared.pass(1);
        edges.is("what is left goes to the greater number", Edges.purses(shared), "[0, 20, 10]");
        PactClocks days = Desks.purses(30, 0, 0);
        days.addDuty(0, 1, 1, 2, 0, 20, -1);
        days.addDuty(0, 2, 1, 1, 0, 20, -1);
        days.pass(2);
        edges.is("an earlier day goes before a smaller number", Edges.purses(days), "[0, 10, 20]");
    }

    private void text() {
        edges.of("The text of a duty, and, if it hangs on one, \" after \", the number of that one");
        int[] amounts = {1, 9, 10, 50};
        for (int amount : amounts) {
            PactClocks desk = Desks.purses(1, 1, 1, 1, 1, 1);
            desk.addDuty(5, 0, amount, 1, 1, 1, -1);
            reads(desk, 0, "5 owes " + amount + " to 0.");
            desk.addDuty(0, 5, amount, 1, 1, 1, 0);
            reads(desk, 1, "0 owes " + amount + " to 5 after 0.");
        }
        int[] bases = {0, 8, 9, 10, 18};
        for (int base : bases) {
            PactClocks desk = Desks.beside(19);
            desk.addDuty(1, 0, 50, 1, 1, 1, base);
            reads(desk, 19, "1 owes 50 to 0 after " + base + ".");
        }
        PactClocks shortest = Desks.purses(1, 1);
        shortest.addDuty(0, 1, 1, 1, 1, 1, -1);
        edges.is("the shortest text", shortest.textLength(0), 14);
        PactClocks longest = Desks.beside(19);
        longest.addDuty(0, 1, 10, 1, 1, 1, 10);
        edges.is("the longest text", longest.textLength(19), 24);
    }

    private void reads(PactClocks desk, int duty, String text) {
        edges.is("textLength of " + text, desk.textLength(duty), text.length());
        edges.is("sealOf of " + text, desk.sealOf(duty), Seals.of(text));
    }
}
