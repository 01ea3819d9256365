/** The sentences of "What it is" and of the terms up to the waiting list. */
final class TermSentences {
    private final Sentences s;

    TermSentences(Sentences s) {
        this.s = s;
    }

    void run() {
        s.test("What it is", "Sells the places of one journey by fares with nested limits, holds them for a while,"
            + " keeps a waiting list that is served whenever places come free, gives seats next to one another,"
            + " and at last lets those board who have a place.", this::oneJourney);
        s.test("What it is", "An object is used for at most 512 calls after it has been made;",
            this::answersThe512thCall);
        s.test("What it is", "what later calls answer is free.", this::answersLaterCallsToo);
        s.test("Terms", "TIME is counted in ticks, at first 0.", this::timeIsAtFirst0);
        s.test("Terms", "The cabin has ROWS, numbered from 0, of 6 SEATS 0 .. 5", this::rowsOfSixSeats);
        s.test("Terms", "with an aisle between 2 and 3.", this::aisleBetween2And3);
        s.test("Terms", "The CAPACITY is the number of seats.", this::capacityIsTheNumberOfSeats);
        s.test("Terms", "FARES 0 .. 3 have PRICES, at first 400, 300, 200, 100", this::pricesAtFirst);
        s.test("Terms", "LIMITS, at first each the capacity", this::limitsAtFirst);
        s.test("Terms", "none above that of the fare before it;", this::noLimitAboveTheOneBefore);
        s.test("Terms", "that of fare 0 may be above the capacity.", this::limitAboveTheCapacity);
        s.test("Terms", "A fare's SHARE is how many places the bookings of this fare have that are HELD,"
            + " CONFIRMED or BOARDED.", this::shareByState);
        s.test("Terms", "The ROOM of a fare c is the least, over all fares k from 0 to c, of the limit of k"
            + " less the shares of fares k to 3", this::roomIsTheLeast);
        s.test("Terms", "less the shares of fares k to 3", this::sharesOfLowerFaresTakeRoom);
        s.test("Terms", "(it may be below 0).", this::roomBelow0);
        s.test("Terms", "BOOKINGS have numbers 0, 1, .. as they are made", this::numbersAsTheyAreMade);
        s.test("Terms", "at most 60", this::atMost60);
        s.test("Terms", "a fare, 1 .. 6 PLACES", this::oneToSixPlaces);
        s.test("Terms", "a STATE: 1 HELD, 2 CONFIRMED, 3 WAITING, 4 CANCELLED, 5 EXPIRED, 6 BOARDED,"
            + " 7 LEFT BEHIND;", this::sevenStates);
        s.test("Terms", "a held one a time at which it expires;", this::heldOneExpires);
        s.test("Terms", "a confirmed or boarded one some seats", this::seatsOfConfirmedAndBoarded);
        s.test("Terms", "in the order in which they were given", this::seatsInTheirOrder);
        s.test("Terms", "not more than places.", this::notMoreSeatsThanPlaces);
        s.test("Terms", "A booking that is held or confirmed COUNTS.", this::heldOrConfirmedCounts);
        serving();
    }

    private void serving() {
        s.test("Terms", "SERVING: as long as there is one:", this::servedAsLongAsThereIsOne);
        s.test("Terms", "the first one on the waiting list", this::firstOnTheList);
        s.test("Terms", "for whose fare there is room for all its places", this::roomForAllItsPlaces);
        s.test("Terms", "for whose fare there is room for all its places", this::roomOfItsOwnFare);
        s.test("Terms", "is taken from the list, and is held,", this::takenFromTheList);
        s.test("Terms", "for as many ticks as it asked for when it came on it.", this::heldForTheTicksAsked);
        s.test("Terms", "It is done at the end of limit,", this::servedAfterLimit);
        s.test("Terms", "join,", this::servedAfterJoin);
        s.test("Terms", "at the end of limit, join, cancel,", this::servedAfterCancel);
        s.test("Terms", "cancel, shrink", this::servedAfterShrink);
        s.test("Terms", "shrink and change,", this::servedAfterChange);
        s.test("Terms", "and of each tick in which some booking expired.", this::servedAfterTick);
    }

    private void oneJourney() {
        FareDesk x = Desks.limits(1, 6, 4, 2, 2);
        s.same("two places at the lowest fare", x.hold(3, 2, 9), 0);
        s.rooms(x, 4, 2, 0, 0);
        s.same("four more, for a while", x.hold(0, 4, 2), 1);
        s.same("two that wait for places", x.join(1, 2, 9), 2);
        x.confirm(0);
        s.same("seats next to one another", x.together(0), 0);
        s.seats(x, 0, 0, 1);
        x.tick(2);
        s.states(x, 2, 5, 1);
        s.same("the one that was served pays", x.confirm(2), 600);
        s.same("those board who have a place", x.close(), 4);
        s.states(x, 6, 5, 6);
        s.seats(x, 2, 2, 3);
    }

    private void answersThe512thCall() {
        FareDesk x = new FareDesk(1);
        for (int call = 1; call <= 511; call++) {
            x.tick(100);
        }
        s.same("the time, asked in the 512th call", x.count(0), 51100);
        FareDesk y = new FareDesk(10);
        for (int call = 1; call <= 507; call++) {
            y.at(0);
        }
        y.tick(100);
        s.same("hold in the 509th call", y.hold(0, 6, 50), 0);
        s.same("confirm in the 510th call", y.confirm(0), 2400);
        s.same("together in the 511th call", y.together(0), 0);
        s.same("close in the 512th call", y.close(), 6);
    }

    /** Whatever they answer: they end, and none throws by itself (LANGUAGE.md, rule 7). */
    private void answersLaterCallsToo() {
        s.allowed("1000 ticks, holds and questions", () -> new FareDesk(1), x -> {
            for (int i = 0; i < 1000; i++) {
                x.tick(100);
                if (x.count(1) < 60) {
                    x.hold(0, 6, 50);
                }
            }
        });
    }

    private void timeIsAtFirst0() {
        FareDesk x = new FareDesk(1);
        s.same("time of a new desk", x.count(0), 0);
        x.tick(1);
        s.same("time after a tick", x.count(0), 1);
        x.hold(0, 1, 50);
        x.confirm(0);
        s.same("other calls take no time", x.count(0), 1);
        x.tick(100);
        s.same("time after 100 more", x.count(0), 101);
    }

    private void rowsOfSixSeats() {
        FareDesk x = Desks.wide(2);
        for (int seat = 0; seat < 12; seat++) {
            s.same("seat " + seat + " can be given", x.seat(Desks.party(x, 0, 1), seat), 1);
            s.same("at(" + seat + ")", x.at(seat), seat);
        }
        s.same("free seats", x.count(5), 0);
        s.badArgument("seat 12 of 2 rows", () -> Desks.confirmed(2, 0, 1), y -> y.seat(0, 12));
    }

    private void aisleBetween2And3() {
        FareDesk between1And2 = Desks.take(Desks.wide(2), 0);
        s.same("no aisle between 1 and 2", between1And2.together(Desks.party(between1And2, 0, 2)), 1);
        FareDesk between2And3 = Desks.take(Desks.wide(2), 0, 1, 5);
        s.same("the aisle", between2And3.together(Desks.party(between2And3, 0, 2)), 3);
        FareDesk between3And4 = Desks.take(Desks.wide(2), 0, 1, 2, 5);
        s.same("no aisle between 3 and 4", between3And4.together(Desks.party(between3And4, 0, 2)), 3);
        FareDesk secondRow = Desks.take(Desks.wide(2), 0, 2, 3, 5, 6, 7, 11);
        s.same("the aisle of row 1", secondRow.together(Desks.party(secondRow, 0, 2)), 9);
    }

    private void capacityIsTheNumberOfSeats() {
        for (int rows = 1; rows <= 10; rows++) {
            FareDesk x = new FareDesk(rows);
            s.same("free seats of " + rows + " rows", x.count(5), 6 * rows);
            s.rooms(x, 6 * rows, 6 * rows, 6 * rows, 6 * rows);
        }
    }

    private void pricesAtFirst() {
        int[] due = {400, 300, 200, 100};
        for (int fare = 0; fare < 4; fare++) {
            FareDesk x = new FareDesk(1);
            s.same("one place of fare " + fare, x.confirm(x.hold(fare, 1, 1)), due[fare]);
        }
    }

    private void limitsAtFirst() {
        s.rooms(new FareDesk(1), 6, 6, 6, 6);
        for (int fare = 0; fare < 4; fare++) {
            int one = fare;
            s.same("all seats as places of fare " + fare, new FareDesk(1).hold(fare, 6, 1), 0);
            s.unsupported("one more of fare " + fare, () -> Desks.confirmed(1, one, 6), x -> x.hold(one, 1, 1));
        }
        // A limit that were hidden below that of an earlier fare would show here.
        FareDesk x = new FareDesk(2);
        x.limit(0, 99);
        s.rooms(x, 99, 12, 12, 12);
    }

    private void noLimitAboveTheOneBefore() {
        for (int fare = 1; fare < 4; fare++) {
            int one = fare;
            s.allowed("the limit of the fare before " + fare, () -> new FareDesk(1), x -> x.limit(one, 6));
            s.badArgument("one above it, for " + fare, () -> new FareDesk(1), x -> x.limit(one, 7));
        }
        s.badArgument("fare 0 below fare 1", () -> new FareDesk(1), x -> x.limit(0, 5));
    }

    private void limitAboveTheCapacity() {
        for (int limit : new int[] {7, 60, 99}) {
            FareDesk x = new FareDesk(1);
            x.limit(0, limit);
            s.rooms(x, limit, 6, 6, 6);
        }
        FareDesk x = new FareDesk(1);
        x.limit(0, 7);
        x.hold(0, 6, 9);
        s.same("a place more than seats", x.hold(0, 1, 9), 1);
        s.rooms(x, 0, 0, 0, 0);
    }

    private void shareByState() {
        int[] due = {0, 3, 3, 0, 0, 0, 3, 0};
        for (int state = Desks.HELD; state <= Desks.LEFT_BEHIND; state++) {
            FareDesk x = Desks.with(state);
            int others = state == Desks.LEFT_BEHIND ? 6 : 0;
            int limit = state == Desks.WAITING ? 6 : 99;
            s.same("places in state " + state, x.count(2), due[state] + others);
            s.same("room in state " + state, x.room(0), limit - due[state] - others);
        }
        FareDesk x = Desks.limits(1, 99, 90, 80, 70);
        for (int fare = 0; fare < 4; fare++) {
            x.hold(fare, fare + 1, 9);
        }
        s.rooms(x, 99 - 10, 90 - 9, 80 - 7, 70 - 4);
    }

    private void roomIsTheLeast() {
        s.rooms(Desks.limits(1, 9, 7, 4, 2), 9, 7, 4, 2);
        FareDesk x = Desks.limits(1, 9, 7, 4, 2);
        x.hold(0, 6, 9);
        s.rooms(x, 3, 3, 3, 2);
        FareDesk y = Desks.limits(1, 9, 7, 4, 2);
        y.hold(1, 5, 9);
        s.rooms(y, 4, 2, 2, 2);
        y.hold(1, 1, 9);
        s.rooms(y, 3, 1, 1, 1);
        FareDesk z = Desks.limits(1, 9, 7, 4, 2);
        z.hold(2, 4, 9);
        s.rooms(z, 5, 3, 0, 0);
    }

    private void sharesOfLowerFaresTakeRoom() {
        FareDesk x = Desks.limits(1, 9, 7, 4, 2);
        x.hold(3, 2, 9);
        s.rooms(x, 7, 5, 2, 0);
        FareDesk y = Desks.limits(1, 9, 7, 4, 2);
        y.hold(0, 1, 9);
        s.rooms(y, 8, 7, 4, 2);
    }

    private void roomBelow0() {
        FareDesk x = Desks.confirmed(1, 3, 4);
        x.limit(3, 3);
        s.rooms(x, 2, 2, 2, -1);
        x.limit(3, 0);
        s.rooms(x, 2, 2, 2, -4);
        x.limit(2, 0);
        x.limit(1, 0);
        x.limit(0, 0);
        s.rooms(x, -4, -4, -4, -4);
        x.close();
        s.rooms(x, -4, -4, -4, -4);
    }

    private void numbersAsTheyAreMade() {
        FareDesk x = new FareDesk(1);
        s.same("the first", x.hold(0, 4, 1), 0);
        s.same("the second, which waits", x.join(0, 3, 1), 1);
        s.same("the third, which is served", x.join(3, 2, 1), 2);
        x.cancel(2);
        s.same("a cancelled one's number is not given again", x.hold(1, 1, 1), 3);
        x.tick(1);
        s.same("nor that of an expired one", x.join(0, 1, 1), 4);
    }

    private void atMost60() {
        FareDesk x = Desks.crowded(59);
        s.same("the 60th", x.hold(0, 1, 1), 59);
        s.same("how many", x.count(1), 60);
        s.badState("hold of the 61st", () -> Desks.crowded(60), y -> y.hold(0, 1, 1));
        s.badState("join of the 61st", () -> Desks.crowded(60), y -> y.join(0, 1, 1));
        s.badArgument("of the 61st", () -> Desks.crowded(60), y -> y.of(60, 0));
    }

    private void oneToSixPlaces() {
        for (int places = 1; places <= 6; places++) {
            FareDesk x = new FareDesk(1);
            x.hold(0, places, 1);
            s.same("places of a held one", x.of(0, 2), places);
        }
        s.range("places of hold", 1, 6, () -> new FareDesk(1), (x, n) -> x.hold(0, n, 1));
        s.badArgument("shrink to no place", () -> Desks.confirmed(1, 0, 1), x -> x.shrink(0, 1));
    }

    private void sevenStates() {
        for (int state = Desks.HELD; state <= Desks.LEFT_BEHIND; state++) {
            s.same("the state", Desks.with(state).of(0, 0), state);
        }
    }

    private void heldOneExpires() {
        FareDesk x = new FareDesk(1);
        x.tick(7);
        x.hold(0, 1, 1);
        x.hold(0, 1, 50);
        s.same("the next tick", x.of(0, 5), 8);
        s.same("50 ticks on", x.of(1, 5), 57);
    }

    private void seatsOfConfirmedAndBoarded() {
        FareDesk x = Desks.confirmed(1, 0, 2);
        s.seats(x, 0);
        x.seat(0, 4);
        s.seats(x, 0, 4);
        x.close();
        s.seats(x, 0, 4, 0);
        s.badState("a seat for a held one", () -> Desks.with(Desks.HELD), y -> y.seat(0, 0));
    }

    private void seatsInTheirOrder() {
        FareDesk x = Desks.confirmed(1, 0, 4);
        x.seat(0, 5);
        x.seat(0, 1);
        x.together(0);
        s.seats(x, 0, 5, 1, 3, 4);
        x.shrink(0, 1);
        s.seats(x, 0, 5, 1, 3);
        x.shrink(0, 1);
        s.seats(x, 0, 5, 1);
        x.shrink(0, 1);
        s.seats(x, 0, 5);
    }

    private void notMoreSeatsThanPlaces() {
        for (int places = 1; places <= 6; places++) {
            int all = places;
            Sentences.Setup full = () -> {
                FareDesk x = Desks.confirmed(2, 0, all);
                for (int seat = 0; seat < all; seat++) {
                    x.seat(0, seat);
                }
                return x;
            };
            s.same("a seat for each place", full.make().of(0, 3), places);
            s.badState("one more by seat", full, x -> x.seat(0, 11));
            s.badState("one more by together", full, x -> x.together(0));
        }
    }

    private void heldOrConfirmedCounts() {
        s.onlyIn("change, which asks for one that counts", new int[] {Desks.HELD, Desks.CONFIRMED},
            x -> x.change(0, 0));
    }

    private void servedAsLongAsThereIsOne() {
        FareDesk x = Desks.confirmed(1, 0, 6);
        x.join(0, 2, 5);
        x.join(1, 1, 5);
        x.join(2, 3, 5);
        x.join(3, 1, 5);
        x.cancel(0);
        s.states(x, 4, 1, 1, 1, 3);
        s.same("the list", x.count(3), 1);
        FareDesk none = Desks.confirmed(1, 0, 6);
        none.cancel(0);
        s.same("an empty list", none.count(3), 0);
    }

    private void firstOnTheList() {
        FareDesk x = Desks.confirmed(1, 0, 6);
        x.join(3, 4, 5);
        x.join(0, 4, 5);
        x.cancel(0);
        s.states(x, 4, 1, 3);
        x.cancel(1);
        s.states(x, 4, 4, 1);
    }

    private void roomForAllItsPlaces() {
        FareDesk x = Desks.confirmed(1, 0, 6);
        x.join(0, 3, 5);
        x.join(0, 2, 5);
        x.shrink(0, 2);
        s.states(x, 2, 3, 1);
        x.shrink(0, 2);
        s.states(x, 2, 3, 1);
        s.same("room, one too few", x.room(0), 2);
        x.shrink(0, 1);
        s.states(x, 2, 1, 1);
        s.same("room, just enough", x.room(0), 0);
    }

    private void roomOfItsOwnFare() {
        FareDesk x = Desks.limits(1, 6, 6, 6, 2);
        x.hold(0, 6, 50);
        x.join(3, 3, 5);
        x.join(2, 3, 5);
        x.cancel(0);
        s.states(x, 4, 3, 1);
        s.rooms(x, 3, 3, 3, 2);
    }

    private void takenFromTheList() {
        FareDesk x = Desks.confirmed(1, 0, 6);
        x.join(2, 6, 5);
        s.same("the list", x.count(3), 1);
        s.same("places", x.count(2), 6);
        s.same("of one that waits: when it expires", x.of(1, 5), -1);
        x.cancel(0);
        s.same("the list", x.count(3), 0);
        s.same("places", x.count(2), 6);
        s.same("of one that is held: when it expires", x.of(1, 5), 5);
        s.same("it can be confirmed", x.confirm(1), 1200);
    }

    private void heldForTheTicksAsked() {
        FareDesk x = Desks.confirmed(1, 0, 6);
        x.join(0, 1, 1);
        x.join(0, 1, 50);
        x.tick(60);
        s.states(x, 2, 3, 3);
        x.cancel(0);
        s.same("1 tick from now", x.of(1, 5), 61);
        s.same("50 ticks from now", x.of(2, 5), 110);
        x.tick(1);
        s.states(x, 4, 5, 1);
        x.tick(48);
        s.states(x, 4, 5, 1);
        x.tick(1);
        s.states(x, 4, 5, 5);
    }

    private void servedAfterLimit() {
        FareDesk x = Desks.confirmed(1, 0, 6);
        x.join(0, 2, 5);
        x.limit(0, 7);
        s.states(x, 2, 3);
        x.limit(0, 8);
        s.states(x, 2, 1);
        FareDesk y = Desks.limits(1, 6, 6, 6, 0);
        y.join(3, 1, 5);
        y.limit(3, 1);
        s.states(y, 1);
    }

    private void servedAfterJoin() {
        FareDesk x = new FareDesk(1);
        x.join(0, 6, 5);
        s.states(x, 1);
        x.join(0, 1, 5);
        s.states(x, 1, 3);
    }

    private void servedAfterCancel() {
        FareDesk x = new FareDesk(1);
        x.hold(0, 6, 50);
        x.join(0, 6, 5);
        x.cancel(0);
        s.states(x, 4, 1);
    }

    private void servedAfterShrink() {
        FareDesk x = new FareDesk(1);
        x.hold(0, 6, 50);
        x.join(0, 2, 5);
        x.shrink(0, 1);
        s.states(x, 1, 3);
        x.shrink(1, 1);
        s.states(x, 1, 1);
        s.rooms(x, 0, 0, 0, 0);
    }

    private void servedAfterChange() {
        FareDesk x = Desks.limits(1, 6, 4, 2, 2);
        x.hold(3, 2, 50);
        x.join(2, 2, 5);
        x.join(1, 2, 5);
        s.states(x, 1, 3, 1);
        x.change(0, 1);
        s.states(x, 1, 3, 1);
        x.change(0, 0);
        s.states(x, 1, 1, 1);
    }

    private void servedAfterTick() {
        FareDesk x = new FareDesk(1);
        x.hold(0, 6, 2);
        x.join(0, 6, 3);
        x.join(0, 6, 4);
        x.tick(1);
        s.states(x, 1, 3, 3);
        x.tick(1);
        s.states(x, 5, 1, 3);
        s.same("held from tick 2 on", x.of(1, 5), 5);
        x.tick(3);
        s.states(x, 5, 5, 1);
        s.same("held from tick 5 on", x.of(2, 5), 9);
    }
}
