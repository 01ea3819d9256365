/** The sentences of promises 5 to 7 and 10: hold, join, confirm and change. */
final class BookingSentences {
    /** A new booking by hold or by join, which refuse alike but for the room. */
    private interface Maker {
        int make(FareDesk x, int fare, int places, int ticks);
    }

    private static final Maker HOLD = (x, fare, places, ticks) -> x.hold(fare, places, ticks);
    private static final Maker JOIN = (x, fare, places, ticks) -> x.join(fare, places, ticks);

    private final Sentences s;

    BookingSentences(Sentences s) {
        this.s = s;
    }

    void run() {
        hold();
        join();
        s.test("Promise 7", "A held booking is confirmed: what is paid.", this::heldOneIsConfirmed);
        s.test("Promise 7", "there is no such booking;", this::confirmOfNoBooking);
        s.test("Promise 7", "it is not held.", this::confirmOfOneNotHeld);
        change();
    }

    private void hold() {
        s.test("Promise 5", "A booking of places is held for so many ticks: its number.", this::heldForSoManyTicks);
        s.test("Promise 5", "there is no such fare", () -> ofNoFare(HOLD));
        s.test("Promise 5", "or places is not 1 .. 6", () -> placesNot1To6(HOLD));
        s.test("Promise 5", "or ticks not 1 .. 50;", () -> ticksNot1To50(HOLD));
        s.test("Promise 5", "the journey is closed", () -> whenClosed(HOLD));
        s.test("Promise 5", "or there are 60 bookings;", () -> when60(HOLD));
        s.test("Promise 5", "UnsupportedOperationException: there is not room for it.", this::holdWithoutRoom);
        s.test("Promise 5", "IllegalArgumentException: there is no such fare, or places is not 1 .. 6, or ticks not"
            + " 1 .. 50; IllegalStateException: the journey is closed, or there are 60 bookings;"
            + " UnsupportedOperationException: there is not room for it.", this::holdRefusesInOrder);
    }

    private void join() {
        s.test("Promise 6", "Likewise, but it comes on the waiting list", this::comesOnTheList);
        s.test("Promise 6", "at its end", this::comesAtTheEnd);
        s.test("Promise 6", "and is served at once if that can be", this::servedAtOnce);
        s.test("Promise 6", "(before it, those in front of it are, as ever).", this::thoseInFrontAreServedBefore);
        String likeHold = "IllegalArgumentException and IllegalStateException as in hold.";
        s.test("Promise 6", likeHold, () -> ofNoFare(JOIN));
        s.test("Promise 6", likeHold, () -> placesNot1To6(JOIN));
        s.test("Promise 6", likeHold, () -> ticksNot1To50(JOIN));
        s.test("Promise 6", likeHold, () -> whenClosed(JOIN));
        s.test("Promise 6", likeHold, () -> when60(JOIN));
        s.test("Promise 6", likeHold, () -> wrongBeforeClosedOrFull(JOIN));
    }

    private void change() {
        s.test("Promise 10", "A booking that counts has another fare from now on", this::anotherFareFromNowOn);
        s.test("Promise 10", "(what is paid stays).", this::paidStaysWhenChanged);
        s.test("Promise 10", "there is no such booking or fare;", this::changeOfNoBookingOrFare);
        s.test("Promise 10", "it is in another state;", this::changeInAnotherState);
        s.test("Promise 10", "the room of that fare, if the booking did not count, would be less than its places.",
            this::changeWithoutRoom);
        s.test("Promise 10", "if the booking did not count", this::changeToItsOwnFare);
        s.test("Promise 10", "IllegalArgumentException: there is no such booking or fare; IllegalStateException:"
            + " it is in another state; UnsupportedOperationException: the room of that fare",
            this::changeRefusesInOrder);
    }

    private void heldForSoManyTicks() {
        FareDesk x = new FareDesk(2);
        x.tick(3);
        s.same("the first number", x.hold(2, 6, 50), 0);
        s.same("the second", x.hold(1, 1, 1), 1);
        int[] due = {1, 2, 6, 0, 0, 53, -1};
        for (int what = 0; what <= 6; what++) {
            s.same("of(0, " + what + ")", x.of(0, what), due[what]);
        }
        s.same("the second expires", x.of(1, 5), 4);
        s.same("places in all", x.count(2), 7);
        x.tick(1);
        s.states(x, 1, 5);
        x.tick(48);
        s.states(x, 1, 5);
        x.tick(1);
        s.states(x, 5, 5);
    }

    private void ofNoFare(Maker maker) {
        s.range("fare", 0, 3, () -> new FareDesk(1), (x, fare) -> maker.make(x, fare, 1, 1));
    }

    private void placesNot1To6(Maker maker) {
        for (int fare = 0; fare < 4; fare++) {
            int one = fare;
            s.range("places", 1, 6, () -> Desks.wide(1), (x, places) -> maker.make(x, one, places, 1));
        }
        // More than 6 is a wrong argument though there is no room for it either.
        s.badArgument("7 places in a room of 6", () -> new FareDesk(1), x -> maker.make(x, 0, 7, 1));
    }

    private void ticksNot1To50(Maker maker) {
        s.range("ticks", 1, 50, () -> new FareDesk(1), (x, ticks) -> maker.make(x, 0, 1, ticks));
    }

    private void whenClosed(Maker maker) {
        s.allowed("open", () -> new FareDesk(1), x -> maker.make(x, 0, 1, 1));
        s.badState("closed", Desks::closed, x -> maker.make(x, 0, 1, 1));
        s.badState("closed, a booking that boarded", () -> Desks.with(Desks.BOARDED), x -> maker.make(x, 3, 6, 50));
    }

    private void when60(Maker maker) {
        s.same("with 59 there is a 60th", maker.make(Desks.crowded(59), 0, 1, 1), 59);
        s.badState("with 60", () -> Desks.crowded(60), x -> maker.make(x, 0, 1, 1));
        Sentences.Setup ended = () -> {
            FareDesk x = Desks.crowded(60);
            x.cancel(0);
            x.cancel(1);
            x.tick(50);
            return x;
        };
        s.same("all 60 have ended", ended.make().count(2) + ended.make().count(3), 0);
        s.badState("with 60 that have ended", ended, x -> maker.make(x, 0, 1, 1));
    }

    private void holdWithoutRoom() {
        for (int places = 1; places <= 6; places++) {
            int all = places;
            Sentences.Setup enough = () -> Desks.limits(1, all, all, all, all);
            Sentences.Setup tooFew = () -> Desks.limits(1, all - 1, all - 1, all - 1, all - 1);
            s.allowed("room just for " + places, enough, x -> x.hold(3, all, 1));
            s.unsupported("room for one fewer than " + places, tooFew, x -> x.hold(3, all, 1));
        }
        Sentences.Setup steps = () -> Desks.limits(1, 4, 3, 2, 1);
        for (int fare = 0; fare < 4; fare++) {
            int one = fare;
            s.allowed("the room of fare " + fare, steps, x -> x.hold(one, 4 - one, 1));
            s.unsupported("one more of fare " + fare, steps, x -> x.hold(one, 5 - one, 1));
        }
        FareDesk x = new FareDesk(1);
        x.hold(0, 4, 50);
        x.join(0, 3, 5);
        s.same("one that waits takes no room", x.hold(0, 2, 5), 2);
        s.states(x, 1, 3, 1);
        s.unsupported("room below 0", BookingSentences::overSold, y -> y.hold(3, 1, 1));
    }

    private static FareDesk overSold() {
        FareDesk x = Desks.confirmed(1, 3, 4);
        x.limit(3, 0);
        return x;
    }

    private void holdRefusesInOrder() {
        wrongBeforeClosedOrFull(HOLD);
        Sentences.Setup sold = () -> Desks.confirmed(1, 0, 6);
        s.badArgument("no fare, no room", sold, x -> x.hold(4, 1, 1));
        s.badArgument("no places, no room", sold, x -> x.hold(0, 7, 1));
        s.badArgument("no ticks, no room", sold, x -> x.hold(0, 1, 51));
        s.badState("closed, no room", () -> {
            FareDesk x = Desks.confirmed(1, 0, 6);
            x.close();
            return x;
        }, x -> x.hold(0, 1, 1));
        s.badState("60 bookings, no room", () -> Desks.crowded(60), x -> x.hold(3, 1, 1));
    }

    private void wrongBeforeClosedOrFull(Maker maker) {
        Sentences.Setup[] setups = {Desks::closed, () -> Desks.crowded(60)};
        for (Sentences.Setup setup : setups) {
            s.badArgument("no fare", setup, x -> maker.make(x, -1, 1, 1));
            s.badArgument("no fare", setup, x -> maker.make(x, 4, 1, 1));
            s.badArgument("no places", setup, x -> maker.make(x, 0, 0, 1));
            s.badArgument("no places", setup, x -> maker.make(x, 0, 7, 1));
            s.badArgument("no ticks", setup, x -> maker.make(x, 0, 1, 0));
            s.badArgument("no ticks", setup, x -> maker.make(x, 0, 1, 51));
        }
    }

    private void comesOnTheList() {
        FareDesk x = Desks.confirmed(1, 0, 5);
        x.tick(4);
        s.same("its number", x.join(2, 2, 9), 1);
        int[] due = {3, 2, 2, 0, 0, -1, -1};
        for (int what = 0; what <= 6; what++) {
            s.same("of(1, " + what + ")", x.of(1, what), due[what]);
        }
        s.same("the list", x.count(3), 1);
        s.same("it has no share", x.count(2), 5);
        s.rooms(x, 1, 1, 1, 1);
        x.tick(100);
        s.same("it does not expire", x.of(1, 0), 3);
    }

    private void comesAtTheEnd() {
        FareDesk x = Desks.confirmed(1, 0, 6);
        x.join(3, 2, 5);
        x.join(0, 2, 5);
        x.join(1, 2, 5);
        s.same("the list", x.count(3), 3);
        x.shrink(0, 2);
        s.states(x, 2, 1, 3, 3);
        x.shrink(0, 2);
        s.states(x, 2, 1, 1, 3);
        x.cancel(0);
        s.states(x, 4, 1, 1, 1);
    }

    private void servedAtOnce() {
        FareDesk x = new FareDesk(1);
        x.tick(2);
        s.same("its number", x.join(1, 6, 7), 0);
        s.same("its state", x.of(0, 0), 1);
        s.same("it expires", x.of(0, 5), 9);
        s.same("the list", x.count(3), 0);
        s.same("its share", x.count(2), 6);
        s.same("one for which there is no room", x.join(1, 1, 7), 1);
        s.states(x, 1, 3);
    }

    private void thoseInFrontAreServedBefore() {
        FareDesk x = Desks.confirmed(1, 0, 4);
        x.join(0, 3, 5);
        x.join(0, 2, 5);
        s.states(x, 2, 3, 1);
        x.join(0, 1, 5);
        s.states(x, 2, 3, 1, 3);
        x.shrink(0, 3);
        s.states(x, 2, 1, 1, 3);
    }

    private void heldOneIsConfirmed() {
        FareDesk x = new FareDesk(1);
        x.hold(1, 3, 1);
        x.join(2, 2, 1);
        s.same("paid", x.confirm(0), 900);
        s.same("paid of one that was served", x.confirm(1), 400);
        int[] due = {2, 1, 3, 0, 900, -1, -1};
        for (int what = 0; what <= 6; what++) {
            s.same("of(0, " + what + ")", x.of(0, what), due[what]);
        }
        s.same("till", x.count(4), 1300);
        s.same("places", x.count(2), 5);
        x.tick(100);
        s.states(x, 2, 2);
    }

    private void confirmOfNoBooking() {
        s.range("booking", 0, 2, BookingSentences::threeHeld, (x, b) -> x.confirm(b));
    }

    private static FareDesk threeHeld() {
        FareDesk x = new FareDesk(1);
        for (int i = 0; i < 3; i++) {
            x.hold(i, 2, 9);
        }
        return x;
    }

    private void confirmOfOneNotHeld() {
        s.onlyIn("confirm(0)", new int[] {Desks.HELD}, x -> x.confirm(0));
    }

    private void anotherFareFromNowOn() {
        FareDesk x = new FareDesk(1);
        x.hold(3, 4, 9);
        x.limit(3, 2);
        x.change(0, 0);
        s.same("its fare", x.of(0, 1), 0);
        s.same("its state", x.of(0, 0), 1);
        s.same("it expires as before", x.of(0, 5), 9);
        s.rooms(x, 2, 2, 2, 2);
        s.same("it pays the new fare", x.confirm(0), 1600);
        x.seat(0, 5);
        x.seat(0, 1);
        x.limit(3, 4);
        x.change(0, 3);
        s.same("the fare of a confirmed one", x.of(0, 1), 3);
        s.seats(x, 0, 5, 1);
        s.rooms(x, 2, 2, 2, 0);
        s.same("nothing goes back of fare 3", x.shrink(0, 1), 0);
        x.change(0, 1);
        s.same("3 of 4 of 400", x.shrink(0, 1), 300);
        x.close();
        s.same("its fare once it boarded", x.of(0, 1), 1);
    }

    private void paidStaysWhenChanged() {
        for (int fare = 0; fare < 4; fare++) {
            FareDesk x = Desks.confirmed(1, 3, 3);
            x.change(0, fare);
            s.same("paid", x.of(0, 4), 300);
            s.same("till", x.count(4), 300);
            int[] back = {300, 225, 150, 0};
            s.same("back of what fare 3 paid", x.cancel(0), back[fare]);
        }
    }

    private void changeOfNoBookingOrFare() {
        s.range("booking", 0, 2, BookingSentences::threeHeld, (x, b) -> x.change(b, 3));
        s.range("fare", 0, 3, BookingSentences::threeHeld, (x, fare) -> x.change(1, fare));
    }

    private void changeInAnotherState() {
        for (int fare = 0; fare < 4; fare++) {
            int one = fare;
            s.onlyIn("change(0, " + fare + ")", new int[] {Desks.HELD, Desks.CONFIRMED}, x -> x.change(0, one));
        }
    }

    private void changeWithoutRoom() {
        for (int fare = 1; fare < 4; fare++) {
            int one = fare;
            s.allowed("room just for it", () -> fromFare0(one, 4), x -> x.change(0, one));
            s.unsupported("room for one fewer", () -> fromFare0(one, 3), x -> x.change(0, one));
        }
        s.allowed("to fare 0, room just for it", () -> fromFare3(4), x -> x.change(0, 0));
        s.unsupported("to fare 0, room for one fewer", () -> fromFare3(3), x -> x.change(0, 0));
        s.allowed("room in fare 1 too", () -> besideFare1(1), x -> x.change(0, 3));
        s.unsupported("room in fare 3, but not in fare 1", () -> besideFare1(2), x -> x.change(0, 3));
        // Fares behind the new one do not bind it.
        FareDesk x = Desks.limits(1, 9, 9, 9, 4);
        x.hold(3, 4, 9);
        x.limit(3, 0);
        x.change(0, 2);
        s.rooms(x, 5, 5, 5, 0);
    }

    /** Booking 0 has 4 places of fare 0; this fare and those behind it have just this limit. */
    private static FareDesk fromFare0(int fare, int limit) {
        FareDesk x = new FareDesk(1);
        Desks.party(x, 0, 4);
        for (int k = 3; k >= fare; k--) {
            x.limit(k, limit);
        }
        return x;
    }

    /** Booking 0 has 4 places of fare 3, which is closed to more; fare 0 has just this limit. */
    private static FareDesk fromFare3(int limit) {
        FareDesk x = Desks.confirmed(1, 3, 4);
        x.limit(3, 0);
        x.limit(2, 0);
        x.limit(1, 0);
        x.limit(0, limit);
        return x;
    }

    /** Booking 0 has 4 places of fare 0, booking 1 so many of fare 1, where 5 may be sold. */
    private static FareDesk besideFare1(int places) {
        FareDesk x = Desks.limits(1, 9, 5, 5, 4);
        x.hold(0, 4, 9);
        x.hold(1, places, 9);
        return x;
    }

    private void changeToItsOwnFare() {
        s.allowed("all places are its own", () -> Desks.confirmed(1, 0, 6), x -> x.change(0, 3));
        s.allowed("its own fare, full", () -> Desks.confirmed(1, 2, 6), x -> x.change(0, 2));
        Sentences.Setup below = () -> {
            FareDesk x = Desks.confirmed(1, 3, 4);
            x.limit(3, 3);
            return x;
        };
        s.unsupported("its own fare, whose limit is below its places now", below, x -> x.change(0, 3));
        s.allowed("away from it", below, x -> x.change(0, 2));
    }

    private void changeRefusesInOrder() {
        for (int state = Desks.WAITING; state <= Desks.LEFT_BEHIND; state++) {
            int one = state;
            s.badArgument("no fare in state " + state, () -> Desks.with(one), x -> x.change(0, 4));
            s.badArgument("no fare in state " + state, () -> Desks.with(one), x -> x.change(0, -1));
        }
        s.badState("waiting, no room", () -> Desks.with(Desks.WAITING), x -> x.change(0, 1));
        s.badArgument("no fare, no room anywhere", () -> Desks.confirmed(1, 0, 6), x -> x.change(0, 4));
        s.badArgument("no booking and no fare", () -> new FareDesk(1), x -> x.change(0, 4));
    }
}
