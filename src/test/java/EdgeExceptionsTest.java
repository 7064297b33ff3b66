/**
 * Refused calls: which exception each one throws, of several the one that is named first, and that
 * nothing has changed behind it.
 */
public final class EdgeExceptionsTest {
    private static final int[] NO_AMOUNTS = {0, 51};
    private static final int[] NO_DAYS = {0, 31};
    private static final int[] NO_CURES = {-1, 11};
    private static final int[] NO_PENALTIES = {-1, 21};

    private final Edges edges = new Edges();

    private EdgeExceptionsTest() {
    }

    public static void main(String[] args) {
        EdgeExceptionsTest test = new EdgeExceptionsTest();
        test.addParty();
        test.addDutyIndexFirst();
        test.addDutyArgumentBeforeState();
        test.addDutyState();
        test.payStates();
        test.payCoins();
        test.releaseStates();
        test.stopIndexFirst();
        test.stopArgumentBeforeState();
        test.stopStates();
        test.indexBeforeArgument();
        test.goesOnBehindRefusals();
        test.looksChangeNothing();
        test.edges.end();
    }

    private void addParty() {
        edges.of("2: IllegalArgumentException is named before IllegalStateException");
        int[] wrong = {-1, 501, Integer.MIN_VALUE, Integer.MAX_VALUE};
        for (int purse : wrong) {
            edges.refuses(Edges.ARGUMENT, "addParty(" + purse + ") beside six", Desks::full,
                    desk -> desk.addParty(purse));
        }
        edges.refuses(Edges.STATE, "addParty(0) beside six", Desks::full, desk -> desk.addParty(0));
        edges.refuses(Edges.STATE, "addParty(500) beside six", Desks::full,
                desk -> desk.addParty(500));
    }

    private void addDuty(Class<?> want, Edges.Make make, int... a) {
        edges.refuses(want, "addDuty" + Edges.row(a), make,
                desk -> desk.addDuty(a[0], a[1], a[2], a[3], a[4], a[5], a[6]));
    }

    private void addDutyIndexFirst() {
        edges.of("3: IndexOutOfBoundsException is named before the others");
        int[] noParty = {-1, 3};
        for (int party : noParty) {
            addDuty(Edges.INDEX, Desks::eachState, party, party, 1, 1, 1, 1, -1);
            addDuty(Edges.INDEX, Desks::eachState, party, 0, 0, 1, 1, 1, -1);
            addDuty(Edges.INDEX, Desks::eachState, party, 0, 1, 1, 1, 1, 4);
            addDuty(Edges.INDEX, Desks::eachState, party, 0, 0, 0, -1, -1, 5);
            addDuty(Edges.INDEX, Desks::eachState, 0, party, 51, 31, 11, 21, 4);
        }
        int[] noBase = {-2, 6};
        for (int after : noBase) {
            addDuty(Edges.INDEX, Desks::eachState, 0, 0, 1, 1, 1, 1, after);
            addDuty(Edges.INDEX, Desks::eachState, 0, 1, 0, 31, -1, 21, after);
        }
        addDuty(Edges.INDEX, Desks::full, 6, 0, 1, 1, 1, 1, -1);
        addDuty(Edges.INDEX, Desks::full, 0, 6, 1, 1, 1, 1, -1);
        addDuty(Edges.INDEX, Desks::full, 0, 1, 1, 1, 1, 1, -2);
        addDuty(Edges.INDEX, Desks::full, 0, 1, 1, 1, 1, 1, 20);
        addDuty(Edges.INDEX, Desks::full, 6, 6, 0, 0, -1, -1, 20);
    }

    private void addDutyArgumentBeforeState() {
        edges.of("3: IllegalArgumentException is named before IllegalStateException");
        int[] gone = {4, 5};
        for (int after : gone) {
            addDutyWrong(Desks::eachState, after);
        }
        addDutyWrong(Desks::full, -1);
        addDutyWrong(Desks::full, 0);
        addDutyWrong(Desks::full, 1);
        addDutyWrong(Desks::full, 19);
    }

    /** Each wrong argument of a new duty, alone, and all of them at once. */
    private void addDutyWrong(Edges.Make make, int after) {
        addDuty(Edges.ARGUMENT, make, 2, 2, 1, 1, 0, 0, after);
        for (int side = 0; side < 2; side++) {
            addDuty(Edges.ARGUMENT, make, 0, 1, NO_AMOUNTS[side], 1, 0, 0, after);
            addDuty(Edges.ARGUMENT, make, 0, 1, 50, NO_DAYS[side], 10, 20, after);
            addDuty(Edges.ARGUMENT, make, 0, 1, 50, 30, NO_CURES[side], 20, after);
            addDuty(Edges.ARGUMENT, make, 0, 1, 50, 30, 10, NO_PENALTIES[side], after);
            addDuty(Edges.ARGUMENT, make, 1, 1, NO_AMOUNTS[side], NO_DAYS[side], NO_CURES[side],
                    NO_PENALTIES[side], after);
        }
    }

    private void addDutyState() {
        edges.of("3: Throws IllegalStateException if there are 20, or after is failed or released");
        addDuty(Edges.STATE, Desks::full, 0, 1, 1, 1, 0, 0, -1);
        addDuty(Edges.STATE, Desks::full, 0, 1, 50, 30, 10, 20, 19);
        addDuty(Edges.STATE, Desks::full, 0, 1, 1, 1, 0, 0, 0);
        addDuty(Edges.STATE, Desks::full, 0, 1, 1, 1, 0, 0, 1);
        addDuty(Edges.STATE, Desks::eachState, 0, 1, 1, 1, 0, 0, 4);
        addDuty(Edges.STATE, Desks::eachState, 2, 0, 50, 30, 10, 20, 5);
        Edges.Make nineteen = () -> {
            PactClocks desk = Desks.chain(19);
            desk.release(18);
            return desk;
        };
        addDuty(Edges.STATE, nineteen, 0, 1, 1, 1, 0, 0, 18);
        edges.is("the twentieth, on the last that waits",
                nineteen.desk().addDuty(0, 1, 1, 1, 0, 0, 17), 19);
    }

    private void payStates() {
        edges.of("4: Throws IllegalStateException if it neither runs nor is late");
        int[] closed = {1, 3, 4, 5};
        for (int duty : closed) {
            edges.refuses(Edges.STATE, "pay(" + duty + ")", Desks::eachState, desk -> desk.pay(duty));
        }
        edges.is("pay one that runs", Desks.eachState().pay(0), 10);
        edges.is("pay one that is late", Desks.eachState().pay(2), 16);
        edges.refuses(Edges.STATE, "pay the last of a chain", () -> Desks.chain(20),
                desk -> desk.pay(19));
        edges.refuses(Edges.STATE, "pay twice", () -> {
            PactClocks desk = Desks.chain(20);
            desk.pay(0);
            return desk;
        }, desk -> desk.pay(0));
    }

    private void payCoins() {
        edges.of("4: Throws IllegalStateException if the debtor has fewer coins");
        Edges.Make poor = () -> {
            PactClocks desk = Desks.purses(19, 500);
            desk.addDuty(0, 1, 20, 9, 9, 1, -1);
            desk.addDuty(0, 1, 19, 9, 9, 1, -1);
            desk.addDuty(1, 0, 50, 9, 9, 1, 0);
            return desk;
        };
        edges.refuses(Edges.STATE, "pay 20 with 19", poor, desk -> desk.pay(0));
        edges.is("pay 19 with 19", poor.desk().pay(1), 19);
        PactClocks richer = poor.desk();
        richer.give(0, 1);
        edges.is("pay 20 with 20", richer.pay(0), 20);
    }

    private void releaseStates() {
        edges.of("5: Throws IllegalStateException if it is paid, failed or released");
        int[] over = {3, 4, 5};
        for (int duty : over) {
            edges.refuses(Edges.STATE, "release(" + duty + ")", Desks::eachState,
                    desk -> desk.release(duty));
        }
        int[] released = {2, 1, 1};
        for (int duty = 0; duty < 3; duty++) {
            PactClocks desk = Desks.eachState();
            edges.is("release(" + duty + ")", desk.release(duty), released[duty]);
            edges.is("its clock", Edges.row(desk.stateOf(duty), desk.daysLeft(duty),
                    desk.stoppedFor(duty), desk.priceOf(duty), desk.daysUntilFailed(duty)),
                    "[5, 0, 0, 0, -1]");
        }
        Edges.Make behind = () -> {
            PactClocks desk = Desks.chain(20);
            desk.release(0);
            return desk;
        };
        edges.refuses(Edges.STATE, "release what was released with another one", behind,
                desk -> desk.release(19));
    }

    private void stopIndexFirst() {
        edges.of("6: IndexOutOfBoundsException is named before the others");
        int[] days = {-1, 21, Integer.MIN_VALUE, Integer.MAX_VALUE, 0, 20};
        for (int number : days) {
            edges.refuses(Edges.INDEX, "stop(-1, " + number + ")", Desks::eachState,
                    desk -> desk.stop(-1, number));
            edges.refuses(Edges.INDEX, "stop(6, " + number + ")", Desks::eachState,
                    desk -> desk.stop(6, number));
        }
    }

    private void stopArgumentBeforeState() {
        edges.of("6: IllegalArgumentException is named before IllegalStateException");
        int[] days = {-1, 21, Integer.MIN_VALUE, Integer.MAX_VALUE};
        for (int number : days) {
            for (int each = 0; each < 6; each++) {
                int duty = each;
                edges.refuses(Edges.ARGUMENT, "stop(" + duty + ", " + number + ")",
                        Desks::eachState, desk -> desk.stop(duty, number));
            }
        }
    }

    private void stopStates() {
        edges.of("6: Throws IllegalStateException if it neither runs nor is late");
        int[] closed = {1, 3, 4, 5};
        int[] days = {0, 1, 20};
        for (int number : days) {
            for (int duty : closed) {
                edges.refuses(Edges.STATE, "stop(" + duty + ", " + number + ")", Desks::eachState,
                        desk -> desk.stop(duty, number));
            }
            edges.is("stop one that runs", Desks.eachState().stop(0, number), 3);
            edges.is("stop one that is late", Desks.eachState().stop(2, number), 2);
        }
    }

    private void indexBeforeArgument() {
        edges.of("7, 27: IndexOutOfBoundsException is named before IllegalArgumentException");
        int[] noParty = {-1, 3};
        int[] wrong = {0, -1, 501, 61, Integer.MIN_VALUE, Integer.MAX_VALUE};
        for (int party : noParty) {
            for (int number : wrong) {
                edges.refuses(Edges.INDEX, "give(" + party + ", " + number + ")", Desks::eachState,
                        desk -> desk.give(party, number));
                edges.refuses(Edges.INDEX, "purseIn(" + party + ", " + number + ")",
                        Desks::eachState, desk -> desk.purseIn(party, number));
            }
        }
    }

    private void goesOnBehindRefusals() {
        edges.of("A method that throws an exception changes nothing: nor do hundreds of them");
        PactClocks desk = Desks.eachState();
        PactClocks twin = Desks.eachState();
        int refused = 0;
        for (int i = 0; i < 19; i++) {
            Edges.Ask[] asks = {d -> d.addParty(501), d -> d.addDuty(0, 0, 1, 1, 1, 1, -1),
                d -> d.addDuty(0, 1, 1, 1, 1, 1, 4), d -> d.pay(1), d -> d.release(3),
                d -> d.stop(0, 21), d -> d.stop(1, 1), d -> d.give(0, 0), d -> d.pass(61),
                d -> d.inState(6), d -> d.purseIn(0, 61)};
            for (Edges.Ask ask : asks) {
                refused += refused(desk, ask);
            }
        }
        edges.is("how many were refused", refused, 209);
        edges.is("all that there is", Edges.lookOf(desk), Edges.lookOf(twin));
        edges.is("addDuty", desk.addDuty(0, 1, 1, 1, 1, 1, -1), 6);
        edges.is("addParty", desk.addParty(5), 3);
    }

    private static int refused(PactClocks desk, Edges.Ask ask) {
        try {
            ask.of(desk);
            return 0;
        } catch (IllegalArgumentException | IllegalStateException e) {
            return 1;
        }
    }

    private void looksChangeNothing() {
        edges.of("26 to 28: (nothing is changed), and what is asked changes nothing else either");
        Edges.Make[] makes = {Desks::eachState, Desks::full, () -> Desks.chain(20)};
        for (Edges.Make make : makes) {
            edges.onlyLooks("purseIn(0, 1)", make, desk -> desk.purseIn(0, 1));
            edges.onlyLooks("purseIn(1, 60)", make, desk -> desk.purseIn(1, 60));
            edges.onlyLooks("bestToPay(0)", make, desk -> desk.bestToPay(0));
            edges.onlyLooks("bestToPay(1)", make, desk -> desk.bestToPay(1));
            edges.onlyLooks("daysUntilFailed(0)", make, desk -> desk.daysUntilFailed(0));
            edges.onlyLooks("daysUntilFailed(2)", make, desk -> desk.daysUntilFailed(2));
            edges.onlyLooks("digest()", make, PactClocks::digest);
            edges.onlyLooks("meanPurse()", make, PactClocks::meanPurse);
            edges.onlyLooks("weakest()", make, PactClocks::weakest);
        }
    }
}
