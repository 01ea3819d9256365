/** The sentences of promises 13 to 15 and 17: tick, close, of and count. */
final class JourneySentences {
    private final Sentences s;

    JourneySentences(Sentences s) {
        this.s = s;
    }

    void run() {
        s.test("Promise 13", "n ticks;", this::soManyTicks);
        s.test("Promise 13", "in each all held bookings whose time has come expire.", this::timeHasCome);
        s.test("Promise 13", "all held bookings whose time has come", this::allOfThemExpire);
        s.test("Promise 13", "in each", this::servedInEachOfThem);
        s.test("Promise 13", "n is not 1 .. 100.", this::ticksNot1To100);
        close();
        boarding();
        of();
        count();
    }

    private void close() {
        s.test("Promise 14", "The journey is closed:", this::journeyIsClosed);
        s.test("Promise 14", "held bookings expire", this::heldOnesExpire);
        s.test("Promise 14", ", waiting ones are cancelled", this::waitingOnesAreCancelled);
        s.test("Promise 14", "How many places boarded.", this::howManyPlacesBoarded);
        s.test("Promise 14", "IllegalStateException: it is closed already.", this::closedAlready);
    }

    private void boarding() {
        s.test("Promise 14", ", and the confirmed ones board", this::confirmedOnesBoard);
        s.test("Promise 14", ", those of fare 0 first, then of 1, 2, 3", this::byFares);
        s.test("Promise 14", ", of each by their numbers:", this::byNumbers);
        s.test("Promise 14", "one for whose places without a seat as many seats are free", this::asManySeatsAreFree);
        s.test("Promise 14", "gets the first free ones and is boarded;", this::getsTheFirstFreeOnes);
        s.test("Promise 14", "one for which there are too few is left behind", this::tooFew);
        s.test("Promise 14", ", its seats are free", this::seatsOfOneLeftBehind);
        s.test("Promise 14", ", and all that is paid of it goes back.", this::allThatIsPaidGoesBack);
    }

    private void of() {
        s.test("Promise 15", "Of a booking: 0 its state, 1 its fare, 2 its places", this::stateFarePlaces);
        s.test("Promise 15", ", 3 how many seats it has", this::howManySeats);
        s.test("Promise 15", ", 4 what is paid", this::whatIsPaid);
        s.test("Promise 15", ", 5 when it expires (of a held one; else -1)", this::whenItExpires);
        s.test("Promise 15", ", 6 the first seat that it was given of those that it has", this::firstSeatGiven);
        s.test("Promise 15", "(-1 for none).", this::noFirstSeat);
        s.test("Promise 15", "there is no such booking", this::ofNoBooking);
        s.test("Promise 15", ", or what.", this::ofNoWhat);
    }

    private void count() {
        s.test("Promise 17", "Something: 0 the time", this::countsTheTime);
        s.test("Promise 17", ", 1 how many bookings there are", this::countsBookings);
        s.test("Promise 17", ", 2 places that are held, confirmed or boarded", this::countsPlaces);
        s.test("Promise 17", ", 3 bookings on the waiting list", this::countsTheList);
        s.test("Promise 17", ", 4 what is in the till", this::countsTheTill);
        s.test("Promise 17", ", 5 free seats", this::countsFreeSeats);
        s.test("Promise 17", ", 6 whether the journey is closed (1, else 0).", this::countsClosed);
        s.test("Promise 17", "any other number.", this::countOfAnyOther);
    }

    private void soManyTicks() {
        FareDesk x = new FareDesk(1);
        int[] ticks = {1, 2, 99, 100};
        int time = 0;
        for (int n : ticks) {
            x.tick(n);
            time += n;
            s.same("time after " + n + " ticks more", x.count(0), time);
        }
        x.close();
        x.tick(100);
        s.same("time goes on when closed", x.count(0), time + 100);
        FareDesk y = Desks.with(Desks.BOARDED);
        y.tick(100);
        s.same("one that boarded stays", y.of(0, 0), 6);
    }

    private void timeHasCome() {
        for (int ticks : new int[] {1, 2, 49, 50}) {
            FareDesk x = new FareDesk(1);
            x.tick(1);
            x.hold(3, 6, ticks);
            if (ticks > 1) {
                x.tick(ticks - 1);
            }
            s.same("one tick before, of " + ticks, x.of(0, 0), 1);
            s.rooms(x, 0, 0, 0, 0);
            x.tick(1);
            s.same("its time has come, of " + ticks, x.of(0, 0), 5);
            s.rooms(x, 6, 6, 6, 6);
            s.same("places", x.count(2), 0);
            s.same("when it expires", x.of(0, 5), -1);
        }
        FareDesk late = new FareDesk(1);
        late.hold(0, 1, 3);
        late.tick(100);
        s.same("its time came on the way", late.of(0, 0), 5);
        FareDesk confirmed = Desks.confirmed(1, 0, 1);
        confirmed.tick(100);
        s.same("a confirmed one does not expire", confirmed.of(0, 0), 2);
    }

    private void allOfThemExpire() {
        FareDesk x = new FareDesk(1);
        x.hold(0, 1, 3);
        x.hold(1, 1, 2);
        x.hold(2, 1, 3);
        x.hold(3, 1, 4);
        x.confirm(x.hold(0, 1, 3));
        x.tick(2);
        s.states(x, 1, 5, 1, 1, 2);
        x.tick(1);
        s.states(x, 5, 5, 5, 1, 2);
        x.tick(1);
        s.states(x, 5, 5, 5, 5, 2);
        FareDesk full = Desks.crowded(60);
        full.tick(50);
        s.same("59 at once", full.count(2), 0);
        // Serving waits until all of a tick have expired: else the small one would come first.
        FareDesk y = new FareDesk(1);
        y.hold(0, 3, 2);
        y.hold(0, 3, 2);
        y.join(0, 6, 5);
        y.join(0, 3, 5);
        y.tick(2);
        s.states(y, 5, 5, 1, 3);
    }

    private void servedInEachOfThem() {
        FareDesk x = new FareDesk(1);
        x.hold(0, 6, 3);
        x.join(0, 6, 4);
        x.join(0, 6, 50);
        x.tick(10);
        s.states(x, 5, 5, 1);
        s.same("served in tick 7", x.of(2, 5), 57);
        s.same("the list", x.count(3), 0);
        FareDesk chain = new FareDesk(1);
        chain.hold(0, 6, 1);
        for (int i = 0; i < 20; i++) {
            chain.join(0, 6, 1);
        }
        chain.tick(20);
        s.same("19 served and expired, the 20th held", chain.of(20, 0), 1);
        s.same("it expires", chain.of(20, 5), 21);
        s.same("the one before it", chain.of(19, 0), 5);
        chain.tick(1);
        s.same("it expired too", chain.of(20, 0), 5);
    }

    private void ticksNot1To100() {
        s.range("n", 1, 100, () -> Desks.with(Desks.HELD), (x, n) -> x.tick(n));
        s.range("n when closed", 1, 100, Desks::closed, (x, n) -> x.tick(n));
    }

    private void journeyIsClosed() {
        FareDesk x = new FareDesk(1);
        s.same("before", x.count(6), 0);
        s.same("boarded of no bookings", x.close(), 0);
        s.same("after", x.count(6), 1);
        s.badState("hold", Desks::closed, y -> y.hold(0, 1, 1));
        s.badState("join", Desks::closed, y -> y.join(0, 1, 1));
        s.badState("limit", Desks::closed, y -> y.limit(0, 6));
        s.allowed("price", Desks::closed, y -> y.price(0, 6));
    }

    private void heldOnesExpire() {
        FareDesk x = new FareDesk(1);
        x.hold(0, 2, 50);
        Desks.party(x, 3, 1);
        x.hold(1, 3, 1);
        s.same("boarded", x.close(), 1);
        s.states(x, 5, 6, 5);
        s.same("when it expires", x.of(0, 5), -1);
        s.same("places", x.count(2), 1);
        s.same("the time stays", x.count(0), 0);
        s.rooms(x, 5, 5, 5, 5);
        FareDesk full = Desks.crowded(60);
        s.same("boarded of 60, none of them confirmed", full.close(), 0);
        s.same("the last of 60", full.of(59, 0), 5);
        s.same("the first of 60, which waited", full.of(0, 0), 4);
        s.badState("confirm of one that expired so", () -> {
            FareDesk y = new FareDesk(1);
            y.hold(0, 2, 50);
            y.close();
            return y;
        }, y -> y.confirm(0));
    }

    private void waitingOnesAreCancelled() {
        FareDesk x = new FareDesk(1);
        x.hold(0, 6, 50);
        x.join(0, 6, 50);
        x.join(3, 1, 50);
        s.same("boarded", x.close(), 0);
        // Though the held one's places come free, none is served.
        s.states(x, 5, 4, 4);
        s.same("the list", x.count(3), 0);
        s.same("places", x.count(2), 0);
        FareDesk y = Desks.with(Desks.WAITING);
        y.close();
        s.states(y, 4);
        s.same("till", y.count(4), 0);
    }

    private void howManyPlacesBoarded() {
        s.same("none", new FareDesk(1).close(), 0);
        for (int places = 1; places <= 6; places++) {
            s.same("one booking", Desks.confirmed(1, 2, places).close(), places);
        }
        FareDesk x = Desks.wide(1);
        Desks.party(x, 0, 3);
        Desks.party(x, 1, 4);
        Desks.party(x, 2, 2);
        s.same("without the one left behind", x.close(), 5);
        FareDesk full = Desks.wide(10);
        for (int i = 0; i < 16; i++) {
            Desks.party(full, i % 4, 6);
        }
        s.same("a full cabin", full.close(), 60);
        s.same("places", full.count(2), 60);
        FareDesk most = Desks.wide(10);
        for (int i = 0; i < 60; i++) {
            Desks.party(most, i % 4, 1);
        }
        s.same("60 bookings of one place", most.close(), 60);
        s.same("the last of them", most.of(59, 6), 59);
        s.same("free seats", most.count(5), 0);
    }

    private void closedAlready() {
        s.allowed("open", () -> new FareDesk(1), x -> x.close());
        s.badState("closed", Desks::closed, x -> x.close());
        s.badState("closed, with one that boarded", () -> Desks.with(Desks.BOARDED), x -> x.close());
        s.badState("closed, with one left behind", () -> Desks.with(Desks.LEFT_BEHIND), x -> x.close());
    }

    private void confirmedOnesBoard() {
        FareDesk x = new FareDesk(1);
        for (int fare = 0; fare < 4; fare++) {
            Desks.party(x, fare, 1);
        }
        s.same("boarded", x.close(), 4);
        s.states(x, 6, 6, 6, 6);
        s.same("till", x.count(4), 1000);
        s.same("paid", x.of(1, 4), 300);
        s.same("places", x.count(2), 4);
        s.same("free seats", x.count(5), 2);
    }

    private void byFares() {
        FareDesk x = new FareDesk(2);
        for (int fare = 3; fare >= 0; fare--) {
            Desks.party(x, fare, 3);
        }
        x.close();
        for (int fare = 0; fare < 4; fare++) {
            s.seats(x, 3 - fare, 3 * fare, 3 * fare + 1, 3 * fare + 2);
        }
        for (int behind = 0; behind < 4; behind++) {
            FareDesk y = Desks.wide(1);
            for (int fare = 3; fare >= 0; fare--) {
                Desks.party(y, fare, fare == behind ? 6 : 2);
            }
            y.close();
            // A party of 6 has the cabin if its fare is first, and nothing if it is not.
            for (int fare = 0; fare < 4; fare++) {
                boolean boards = behind == 0 ? fare == 0 : fare != behind;
                s.same("fare " + fare + " when the big one has " + behind, y.of(3 - fare, 0), boards ? 6 : 7);
            }
        }
    }

    private void byNumbers() {
        for (int fare = 0; fare < 4; fare++) {
            FareDesk x = Desks.wide(1);
            Desks.party(x, fare, 3);
            Desks.party(x, fare, 2);
            Desks.party(x, fare, 2);
            Desks.party(x, fare, 1);
            s.same("boarded", x.close(), 6);
            s.states(x, 6, 6, 7, 6);
            s.seats(x, 0, 0, 1, 2);
            s.seats(x, 1, 3, 4);
            s.seats(x, 3, 5);
        }
        FareDesk changed = Desks.wide(1);
        Desks.party(changed, 0, 4);
        Desks.party(changed, 0, 4);
        changed.change(0, 3);
        changed.close();
        s.states(changed, 7, 6);
    }

    private void asManySeatsAreFree() {
        for (int places = 1; places <= 6; places++) {
            s.same("just as many are free", almostFull(places, places, 0).close(), 6);
            s.same("one fewer is free", almostFull(places, places - 1, 0).close(), 7 - places);
        }
        for (int has = 1; has <= 3; has++) {
            FareDesk enough = almostFull(4, 4, has);
            s.same("just as many as have none", enough.close(), 6);
            FareDesk tooFew = almostFull(4, 3, has);
            s.same("one fewer than have none", tooFew.close(), 3);
            s.states(tooFew, 7);
        }
        FareDesk all = Desks.wide(1);
        all.together(Desks.party(all, 3, 6));
        Desks.party(all, 0, 1);
        s.same("one that has all needs none", all.close(), 6);
        s.states(all, 6, 7);
    }

    /** One row: booking 0 has this many places and so many of the seats that the others leave. */
    private static FareDesk almostFull(int places, int left, int has) {
        FareDesk x = Desks.wide(1);
        Desks.party(x, 0, places);
        for (int seat = 0; seat < has; seat++) {
            x.seat(0, seat);
        }
        for (int seat = 5; seat >= left; seat--) {
            x.seat(Desks.party(x, 1, 1), seat);
        }
        return x;
    }

    private void getsTheFirstFreeOnes() {
        FareDesk x = Desks.wide(2);
        int a = Desks.party(x, 0, 3);
        int b = Desks.party(x, 2, 4);
        x.seat(b, 1);
        x.seat(b, 10);
        s.same("boarded", x.close(), 7);
        s.seats(x, a, 0, 2, 3);
        s.seats(x, b, 1, 10, 4, 5);
        s.same("its first seat stays", x.of(b, 6), 1);
        s.same("free seats", x.count(5), 5);
        s.states(x, 6, 6);
    }

    private void tooFew() {
        FareDesk x = Desks.wide(1);
        Desks.party(x, 0, 5);
        Desks.party(x, 0, 2);
        Desks.party(x, 3, 1);
        s.same("a smaller one behind it boards", x.close(), 6);
        s.states(x, 6, 7, 6);
        s.seats(x, 1);
        s.seats(x, 2, 5);
        s.same("places", x.count(2), 6);
        s.same("room", x.room(0), 93);
        s.same("its places stay told", x.of(1, 2), 2);
        s.same("its fare stays told", x.of(1, 1), 0);
    }

    private void seatsOfOneLeftBehind() {
        FareDesk x = Desks.wide(1);
        int big = Desks.party(x, 0, 5);
        x.seat(big, 4);
        int sitting = Desks.party(x, 3, 3);
        x.together(sitting);
        int late = Desks.party(x, 1, 3);
        s.same("boarded", x.close(), 6);
        s.states(x, 7, 6, 6);
        s.seats(x, big);
        s.seats(x, sitting, 0, 1, 2);
        s.seats(x, late, 3, 4, 5);
        FareDesk y = Desks.wide(1);
        Desks.take(y, 0, 1, 2, 3);
        int behind = Desks.party(y, 0, 3);
        y.seat(behind, 5);
        y.close();
        s.same("at(5), which no one takes", y.at(5), -1);
        s.same("free seats", y.count(5), 2);
    }

    private void allThatIsPaidGoesBack() {
        for (int fare = 0; fare < 4; fare++) {
            FareDesk x = Desks.wide(1);
            x.price(fare, 7);
            x.together(Desks.party(x, 0, 6));
            int before = x.count(4);
            Desks.party(x, fare, 3);
            s.same("till", x.count(4), before + 21);
            s.same("boarded", x.close(), 6);
            s.same("till without the one of fare " + fare, x.count(4), before);
            s.same("paid of the one left behind", x.of(1, 4), 0);
            s.same("paid of the one that boarded", x.of(0, 4), before);
        }
        FareDesk shrunk = Desks.wide(1);
        shrunk.together(Desks.party(shrunk, 0, 6));
        Desks.party(shrunk, 3, 3);
        shrunk.shrink(1, 1);
        shrunk.close();
        s.same("what is not paid of it any more stays", shrunk.count(4), 2400 + 100);
    }

    private void stateFarePlaces() {
        for (int state = Desks.HELD; state <= Desks.LEFT_BEHIND; state++) {
            FareDesk x = Desks.with(state);
            s.same("state", x.of(0, 0), state);
            s.same("fare in state " + state, x.of(0, 1), 1);
            s.same("places in state " + state, x.of(0, 2), 3);
        }
        FareDesk x = new FareDesk(4);
        for (int i = 0; i < 6; i++) {
            x.hold(i % 4, i + 1, 9);
            s.same("fare", x.of(i, 1), i % 4);
            s.same("places", x.of(i, 2), i + 1);
        }
    }

    private void howManySeats() {
        int[] due = {0, 0, 0, 0, 0, 0, 3, 0};
        for (int state = Desks.HELD; state <= Desks.LEFT_BEHIND; state++) {
            s.same("seats in state " + state, Desks.with(state).of(0, 3), due[state]);
        }
        FareDesk x = Desks.confirmed(1, 0, 6);
        for (int i = 0; i < 6; i++) {
            s.same("seats", x.of(0, 3), i);
            x.seat(0, i);
        }
        s.same("all of them", x.of(0, 3), 6);
    }

    private void whatIsPaid() {
        int[] due = {0, 0, 900, 0, 0, 0, 900, 0};
        for (int state = Desks.HELD; state <= Desks.LEFT_BEHIND; state++) {
            s.same("paid in state " + state, Desks.with(state).of(0, 4), due[state]);
        }
    }

    private void whenItExpires() {
        int[] due = {0, 50, -1, -1, -1, -1, -1, -1};
        for (int state = Desks.HELD; state <= Desks.LEFT_BEHIND; state++) {
            s.same("when it expires in state " + state, Desks.with(state).of(0, 5), due[state]);
        }
        FareDesk x = new FareDesk(1);
        x.hold(0, 1, 50);
        x.tick(49);
        s.same("it does not move with the time", x.of(0, 5), 50);
        x.tick(1);
        s.same("it has expired", x.of(0, 5), -1);
    }

    private void firstSeatGiven() {
        FareDesk x = Desks.confirmed(1, 0, 3);
        x.seat(0, 4);
        s.same("the only one", x.of(0, 6), 4);
        x.seat(0, 0);
        x.seat(0, 5);
        s.same("not the lowest and not the last", x.of(0, 6), 4);
        x.shrink(0, 2);
        s.same("it is the one that stays", x.of(0, 6), 4);
        FareDesk y = Desks.take(Desks.wide(1), 0);
        y.together(Desks.party(y, 0, 2));
        s.same("of those together gave", y.of(1, 6), 1);
    }

    private void noFirstSeat() {
        for (int state = Desks.HELD; state <= Desks.LEFT_BEHIND; state++) {
            s.same("in state " + state, Desks.with(state).of(0, 6), state == Desks.BOARDED ? 0 : -1);
        }
        FareDesk x = Desks.confirmed(1, 0, 2);
        x.seat(0, 3);
        x.cancel(0);
        s.same("once it is cancelled", x.of(0, 6), -1);
    }

    private void ofNoBooking() {
        Sentences.Setup three = () -> {
            FareDesk x = Desks.confirmed(1, 0, 1);
            x.hold(1, 1, 9);
            x.cancel(x.hold(2, 1, 9));
            return x;
        };
        for (int what = 0; what <= 6; what++) {
            int one = what;
            s.range("booking", 0, 2, three, (x, b) -> x.of(b, one));
        }
        s.badArgument("none at all", () -> new FareDesk(1), x -> x.of(0, 0));
        s.range("booking of 60", 0, 59, () -> Desks.crowded(60), (x, b) -> x.of(b, 0));
    }

    private void ofNoWhat() {
        for (int state = Desks.HELD; state <= Desks.LEFT_BEHIND; state++) {
            int one = state;
            s.range("what in state " + state, 0, 6, () -> Desks.with(one), (x, what) -> x.of(0, what));
        }
    }

    private void countsTheTime() {
        FareDesk x = new FareDesk(1);
        s.same("at first", x.count(0), 0);
        x.tick(100);
        x.tick(1);
        s.same("after 101 ticks", x.count(0), 101);
    }

    private void countsBookings() {
        for (int state = Desks.HELD; state <= Desks.LEFT_BEHIND; state++) {
            int others = state == Desks.LEFT_BEHIND ? 1 : 0;
            s.same("one in state " + state, Desks.with(state).count(1), 1 + others);
        }
        s.same("none", new FareDesk(1).count(1), 0);
        s.same("60", Desks.crowded(60).count(1), 60);
    }

    private void countsPlaces() {
        int[] due = {0, 3, 3, 0, 0, 0, 3, 6};
        for (int state = Desks.HELD; state <= Desks.LEFT_BEHIND; state++) {
            s.same("in state " + state, Desks.with(state).count(2), due[state]);
        }
        FareDesk x = new FareDesk(2);
        for (int fare = 0; fare < 4; fare++) {
            x.hold(fare, 2, 9);
        }
        x.confirm(1);
        s.same("of all fares", x.count(2), 8);
        x.shrink(1, 1);
        s.same("one place fewer", x.count(2), 7);
    }

    private void countsTheList() {
        for (int state = Desks.HELD; state <= Desks.LEFT_BEHIND; state++) {
            s.same("in state " + state, Desks.with(state).count(3), state == Desks.WAITING ? 1 : 0);
        }
        FareDesk x = Desks.confirmed(1, 0, 6);
        for (int i = 0; i < 59; i++) {
            x.join(i % 4, 1 + i % 6, 9);
        }
        s.same("59 that wait", x.count(3), 59);
        x.cancel(30);
        s.same("one fewer", x.count(3), 58);
    }

    private void countsTheTill() {
        int[] due = {0, 0, 900, 0, 0, 0, 900, 2400};
        for (int state = Desks.HELD; state <= Desks.LEFT_BEHIND; state++) {
            s.same("in state " + state, Desks.with(state).count(4), due[state]);
        }
        FareDesk x = Desks.with(Desks.CONFIRMED);
        x.cancel(0);
        s.same("what did not go back", x.count(4), 225);
    }

    private void countsFreeSeats() {
        int[] due = {0, 6, 6, 6, 6, 6, 3, 0};
        for (int state = Desks.HELD; state <= Desks.LEFT_BEHIND; state++) {
            s.same("in state " + state, Desks.with(state).count(5), due[state]);
        }
        FareDesk x = Desks.confirmed(1, 0, 6);
        for (int i = 0; i < 6; i++) {
            s.same("free seats", x.count(5), 6 - i);
            x.seat(0, i);
        }
        s.same("full", x.count(5), 0);
        x.shrink(0, 5);
        s.same("5 are free again", x.count(5), 5);
        x.cancel(0);
        s.same("all are free again", x.count(5), 6);
    }

    private void countsClosed() {
        for (int state = Desks.HELD; state <= Desks.LEFT_BEHIND; state++) {
            s.same("in state " + state, Desks.with(state).count(6), state >= Desks.BOARDED ? 1 : 0);
        }
        FareDesk x = Desks.closed();
        x.tick(100);
        s.same("it stays closed", x.count(6), 1);
    }

    private void countOfAnyOther() {
        s.range("which", 0, 6, () -> new FareDesk(1), (x, which) -> x.count(which));
        s.range("which when closed", 0, 6, Desks::closed, (x, which) -> x.count(which));
        s.badArgument("8", () -> new FareDesk(1), x -> x.count(8));
    }
}
