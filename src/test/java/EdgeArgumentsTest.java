/** What each argument may be: the last that is taken and the first that is not, on each side. */
public final class EdgeArgumentsTest {
    private final Edges edges = new Edges();

    private EdgeArgumentsTest() {
    }

    public static void main(String[] args) {
        EdgeArgumentsTest test = new EdgeArgumentsTest();
        test.purse();
        test.amount();
        test.days();
        test.cure();
        test.penalty();
        test.stopDays();
        test.giveCoins();
        test.passDays();
        test.inStateState();
        test.purseInDays();
        test.debtorAndCreditor();
        test.after();
        test.sameParties();
        test.askedByParty();
        test.balanceParties();
        test.askedByDuty();
        test.hangingDuties();
        test.edges.end();
    }

    private void purse() {
        edges.of("2: Throws IllegalArgumentException if purse is not 0 to 500");
        Edges.AskBy ask = (desk, purse) -> Edges.row(desk.addParty(purse), desk.purseOf(0));
        edges.range("addParty", PactClocks::new, ask, 0, "[0, 0]", 500, "[0, 500]");
    }

    private void amount() {
        edges.of("3: Throws IllegalArgumentException if amount is not 1 to 50");
        Edges.AskBy ask = (desk, amount) ->
                Edges.row(desk.addDuty(0, 1, amount, 5, 5, 5, -1), desk.priceOf(0));
        edges.range("amount", () -> Desks.purses(9, 9), ask, 1, "[0, 1]", 50, "[0, 50]");
    }

    private void days() {
        edges.of("3: Throws IllegalArgumentException if days is not 1 to 30");
        Edges.AskBy ask = (desk, days) ->
                Edges.row(desk.addDuty(0, 1, 5, days, 5, 5, -1), desk.daysLeft(0));
        edges.range("days", () -> Desks.purses(9, 9), ask, 1, "[0, 1]", 30, "[0, 30]");
    }

    private void cure() {
        edges.of("3: Throws IllegalArgumentException if cure is not 0 to 10");
        Edges.AskBy ask = (desk, cure) ->
                Edges.row(desk.addDuty(0, 1, 5, 5, cure, 5, -1), desk.daysUntilFailed(0));
        edges.range("cure", () -> Desks.purses(9, 9), ask, 0, "[0, 5]", 10, "[0, 15]");
    }

    private void penalty() {
        edges.of("3: Throws IllegalArgumentException if penalty is not 0 to 20");
        Edges.AskBy ask = (desk, penalty) ->
                Edges.row(desk.addDuty(0, 1, 5, 5, 5, penalty, -1), desk.purseIn(0, 60));
        edges.range("penalty", () -> Desks.purses(90, 9), ask, 0, "[0, 90]", 20, "[0, 70]");
    }

    private void stopDays() {
        edges.of("6: Throws IllegalArgumentException if days is not 0 to 20");
        Edges.AskBy ask = (desk, days) ->
                Edges.row(desk.stop(6, days), desk.stoppedFor(6), desk.stoppedFor(5));
        edges.range("stop", () -> Desks.beside(8), ask, 0, "[7, 0, 6]", 20, "[7, 20, 6]");
    }

    private void giveCoins() {
        edges.of("7: Throws IllegalArgumentException if coins is not 1 to 500");
        Edges.AskBy ask = (desk, coins) -> Edges.row(desk.give(1, coins), desk.purseOf(0));
        edges.range("give", () -> Desks.purses(4, 500), ask, 1, "[501, 4]", 500, "[1000, 4]");
    }

    private void passDays() {
        edges.of("8: Throws IllegalArgumentException if days is not 1 to 60");
        Edges.AskBy ask = (desk, days) -> Edges.row(desk.pass(days), desk.day());
        Edges.Make make = () -> {
            PactClocks desk = Desks.purses(90, 9);
            desk.addDuty(0, 1, 5, 1, 0, 5, -1);
            desk.addDuty(0, 1, 5, 30, 10, 5, -1);
            desk.stop(1, 20);
            return desk;
        };
        edges.range("pass", make, ask, 1, "[1, 1]", 60, "[2, 60]");
    }

    private void inStateState() {
        edges.of("12: Throws IllegalArgumentException if state is not 0 to 5");
        Edges.Make make = () -> {
            PactClocks desk = Desks.chain(5);
            desk.release(3);
            desk.pay(0);
            return desk;
        };
        edges.range("inState", make, PactClocks::inState, 0, 1, 5, 2);
    }

    private void purseInDays() {
        edges.of("27: Throws IllegalArgumentException if days is not 1 to 60");
        Edges.Make make = () -> {
            PactClocks desk = Desks.purses(90, 9);
            desk.addDuty(0, 1, 5, 1, 0, 3, -1);
            desk.addDuty(0, 1, 5, 30, 10, 5, -1);
            desk.stop(1, 20);
            return desk;
        };
        Edges.AskBy ask = (desk, days) -> desk.purseIn(0, days);
        edges.range("purseIn", make, ask, 1, 87, 60, 82);
        edges.is("purseIn a day before the last", make.desk().purseIn(0, 59), 87);
    }

    private void debtorAndCreditor() {
        edges.of("3: Throws IndexOutOfBoundsException if there is no such debtor or creditor");
        int[] counts = {0, 1, 2, 6};
        for (int count : counts) {
            Edges.Make make = () -> Desks.ring(count);
            int[] wrong = {-1, count, 6, Integer.MIN_VALUE, Integer.MAX_VALUE};
            for (int party : wrong) {
                edges.refuses(Edges.INDEX, "debtor " + party + " of " + count, make,
                        desk -> desk.addDuty(party, 0, 1, 1, 1, 1, -1));
                edges.refuses(Edges.INDEX, "creditor " + party + " of " + count, make,
                        desk -> desk.addDuty(0, party, 1, 1, 1, 1, -1));
            }
        }
        for (int count = 2; count <= 6; count++) {
            PactClocks desk = Desks.ring(count);
            int last = count - 1;
            edges.is("the last as debtor", desk.addDuty(last, 0, 49, 1, 1, 1, -1), count);
            edges.is("the last as creditor", desk.addDuty(0, last, 48, 1, 1, 1, -1), count + 1);
            edges.is("owes(" + last + ")", desk.owes(last), count + 49);
        }
    }

    private void after() {
        edges.of("3: Throws IndexOutOfBoundsException if after is neither -1 nor a duty");
        int[] counts = {0, 1, 2, 19, 20};
        for (int count : counts) {
            Edges.Make make = () -> Desks.beside(count);
            int[] wrong = {-2, count, count + 1, 20, Integer.MIN_VALUE, Integer.MAX_VALUE};
            for (int after : wrong) {
                edges.refuses(Edges.INDEX, "after " + after + " of " + count, make,
                        desk -> desk.addDuty(0, 1, 1, 1, 1, 1, after));
            }
        }
        for (int count = 0; count <= 19; count++) {
            PactClocks desk = Desks.beside(count);
            edges.is("after -1", desk.addDuty(0, 1, 1, 1, 1, 1, -1), count);
            edges.is("its state and depth", Edges.row(desk.stateOf(count), desk.depthOf(count)), "[1, 0]");
        }
        for (int count = 1; count <= 19; count++) {
            int last = count - 1;
            PactClocks desk = Desks.beside(count);
            edges.is("after the last", desk.addDuty(0, 1, 1, 1, 1, 1, last), count);
            edges.is("its state and depth", Edges.row(desk.stateOf(count), desk.depthOf(count)), "[0, 1]");
            edges.is("on the last", desk.hanging(last), 1);
            PactClocks other = Desks.beside(count);
            edges.is("after the first", other.addDuty(0, 1, 1, 1, 1, 1, 0), count);
            edges.is("on the first", other.hanging(0), 1);
        }
    }

    private void sameParties() {
        edges.of("3: Throws IllegalArgumentException if both parties are the same");
        for (int count = 1; count <= 6; count++) {
            int parties = count;
            for (int party = 0; party < count; party++) {
                int same = party;
                edges.refuses(Edges.ARGUMENT, party + " to itself, of " + count,
                        () -> Desks.ring(parties), desk -> desk.addDuty(same, same, 1, 1, 1, 1, -1));
            }
        }
        for (int party = 1; party < 6; party++) {
            PactClocks desk = Desks.ring(6);
            edges.is("to the one before", desk.addDuty(party, party - 1, 1, 1, 1, 1, -1), 6);
            edges.is("to the one behind", desk.addDuty(party - 1, party, 1, 1, 1, 1, -1), 7);
        }
    }

    /** The first and the last party are asked, and those before and behind them are refused. */
    private void byParty(String name, Edges.AskBy ask, Edges.AskBy want) {
        edges.of(name + ": Throws IndexOutOfBoundsException if there is no such party");
        int[] counts = {0, 1, 2, 6};
        for (int count : counts) {
            Edges.Make make = () -> Desks.ring(count);
            int[] wrong = {-1, count, 6, Integer.MIN_VALUE, Integer.MAX_VALUE};
            for (int party : wrong) {
                edges.refuses(Edges.INDEX, name + " by " + party + " of " + count, make,
                        desk -> ask.of(desk, party));
            }
            for (int party = 0; party < count; party++) {
                edges.is(name + " by " + party + " of " + count, ask.of(make.desk(), party),
                        want.of(make.desk(), party));
            }
        }
    }

    private void askedByParty() {
        byParty("7: give", (desk, party) -> desk.give(party, 9), (desk, party) -> 109 + party);
        byParty("13: purseOf", PactClocks::purseOf, (desk, party) -> 100 + party);
        byParty("23: owes", PactClocks::owes,
                (desk, party) -> desk.parties() == 1 ? 0 : party + 1);
        byParty("27: purseIn", (desk, party) -> desk.purseIn(party, 60), (desk, party) -> 100 + party);
        byParty("28: bestToPay", PactClocks::bestToPay,
                (desk, party) -> desk.parties() == 1 ? -1 : party);
    }

    private void balanceParties() {
        byParty("24: balance, one", (desk, party) -> desk.balance(party, 0), (desk, party) -> {
            if (party == 0) {
                return 0;
            }
            int owedByFirst = party == 1 ? 1 : 0;
            int owedToFirst = party == desk.parties() - 1 ? party + 1 : 0;
            return owedByFirst - owedToFirst;
        });
        byParty("24: balance, other", (desk, party) -> desk.balance(0, party), (desk, party) -> {
            if (party == 0) {
                return 0;
            }
            int owedByFirst = party == 1 ? 1 : 0;
            int owedToFirst = party == desk.parties() - 1 ? party + 1 : 0;
            return owedToFirst - owedByFirst;
        });
        byParty("24: balance, both", (desk, party) -> desk.balance(party, party), (desk, party) -> 0);
    }

    /** The first and the last duty are asked, and those before and behind them are refused. */
    private void byDuty(String name, Edges.AskBy ask, Edges.AskBy want) {
        edges.of(name + ": Throws IndexOutOfBoundsException if there is no such duty");
        int[] counts = {0, 1, 2, 20};
        for (int count : counts) {
            Edges.Make make = () -> Desks.beside(count);
            int[] wrong = {-1, count, 20, Integer.MIN_VALUE, Integer.MAX_VALUE};
            for (int duty : wrong) {
                edges.refuses(Edges.INDEX, name + " by " + duty + " of " + count, make,
                        desk -> ask.of(desk, duty));
            }
            for (int duty = 0; duty < count; duty++) {
                edges.is(name + " by " + duty + " of " + count, ask.of(make.desk(), duty),
                        want.of(make.desk(), duty));
            }
        }
    }

    private void askedByDuty() {
        byDuty("4: pay", PactClocks::pay, (desk, duty) -> duty + 1);
        byDuty("5: release", PactClocks::release, (desk, duty) -> 1);
        byDuty("6: stop", (desk, duty) -> desk.stop(duty, 20), (desk, duty) -> duty + 1);
        byDuty("15: stateOf", PactClocks::stateOf, (desk, duty) -> 1);
        byDuty("16: daysLeft", PactClocks::daysLeft, (desk, duty) -> 30 - duty);
        byDuty("17: stoppedFor", PactClocks::stoppedFor, (desk, duty) -> duty + 1);
        byDuty("18: priceOf", PactClocks::priceOf, (desk, duty) -> duty + 1);
        byDuty("21: textLength", PactClocks::textLength, (desk, duty) -> duty < 9 ? 14 : 15);
        byDuty("22: sealOf", PactClocks::sealOf,
                (desk, duty) -> Seals.of("0 owes " + (duty + 1) + " to 1."));
        byDuty("26: daysUntilFailed", PactClocks::daysUntilFailed,
                (desk, duty) -> 31 + duty % 11);
    }

    private void hangingDuties() {
        byDuty("19: hanging", PactClocks::hanging, (desk, duty) -> 0);
        byDuty("20: depthOf", PactClocks::depthOf, (desk, duty) -> 0);
        edges.of("19, 20: in a chain of each length");
        for (int count = 1; count <= 20; count++) {
            PactClocks desk = Desks.chain(count);
            edges.is("the first of " + count, Edges.row(desk.hanging(0), desk.depthOf(0)),
                    Edges.row(count - 1, 0));
            int last = count - 1;
            edges.is("the last of " + count, Edges.row(desk.hanging(last), desk.depthOf(last)),
                    Edges.row(0, last));
        }
    }
}
