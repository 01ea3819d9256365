/** The sentences of promises 1 to 4: a new object, limit, price and room. */
final class FareSentences {
    private final Sentences s;

    FareSentences(Sentences s) {
        this.s = s;
    }

    void run() {
        s.test("Promise 1", "A cabin of so many rows", this::soManyRows);
        s.test("Promise 1", "(at least 1", this::atLeast1Row);
        s.test("Promise 1", ", at most 10);", this::atMost10Rows);
        s.test("Promise 1", "no bookings.", this::noBookings);
        limit();
        s.test("Promise 3", "The price of a fare from now on.", this::priceFromNowOn);
        s.test("Promise 3", "there is no such fare", this::priceOfNoFare);
        s.test("Promise 3", "or price is not 0 .. 9999.", this::priceNot0To9999);
        s.test("Promise 3", "(What is paid stays.)", this::whatIsPaidStays);
        s.test("Promise 4", "The room of a fare.", this::roomOfAFare);
        s.test("Promise 4", "there is none.", this::roomOfNoFare);
    }

    private void limit() {
        s.test("Promise 2", "The limit of a fare.", this::limitOfAFare);
        s.test("Promise 2", "there is no such fare", this::limitOfNoFare);
        s.test("Promise 2", "or limit is not 0 .. 99", this::limitNot0To99);
        s.test("Promise 2", "or above that of the fare before it", this::limitAboveTheFareBefore);
        s.test("Promise 2", "or below that of the next one.", this::limitBelowTheNextFare);
        s.test("Promise 2", "IllegalStateException: the journey is closed.", this::limitWhenClosed);
        s.test("Promise 2", "IllegalArgumentException: there is no such fare, or limit is not 0 .. 99, or above"
            + " that of the fare before it, or below that of the next one. IllegalStateException: the journey"
            + " is closed.", this::limitIsWrongBeforeItIsClosed);
    }

    private void soManyRows() {
        for (int rows = 1; rows <= 10; rows++) {
            cabin(rows, rows);
        }
    }

    private void atLeast1Row() {
        cabin(1, 1);
        cabin(0, 1);
        cabin(-1, 1);
        cabin(Integer.MIN_VALUE, 1);
    }

    private void atMost10Rows() {
        cabin(10, 10);
        cabin(11, 10);
        cabin(100, 10);
        cabin(Integer.MAX_VALUE, 10);
    }

    /** A desk that is asked for so many rows has the rows that are due. */
    private void cabin(int rows, int due) {
        FareDesk x = new FareDesk(rows);
        s.same("free seats of FareDesk(" + rows + ")", x.count(5), 6 * due);
        s.rooms(x, 6 * due, 6 * due, 6 * due, 6 * due);
        s.same("the last seat", x.seat(Desks.party(x, 0, 1), 6 * due - 1), 1);
        s.badArgument("the seat behind it", () -> Desks.confirmed(rows, 0, 1), y -> y.seat(0, 6 * due));
    }

    private void noBookings() {
        FareDesk x = new FareDesk(10);
        int[] due = {0, 0, 0, 0, 0, 60, 0};
        for (int which = 0; which <= 6; which++) {
            s.same("count(" + which + ")", x.count(which), due[which]);
        }
        for (int seat = 0; seat < 60; seat++) {
            s.same("at(" + seat + ")", x.at(seat), -1);
        }
        s.badArgument("of(0, 0)", () -> new FareDesk(10), y -> y.of(0, 0));
        s.badArgument("confirm(0)", () -> new FareDesk(10), y -> y.confirm(0));
        s.badArgument("cancel(0)", () -> new FareDesk(10), y -> y.cancel(0));
        s.badArgument("shrink(0, 1)", () -> new FareDesk(10), y -> y.shrink(0, 1));
        s.badArgument("change(0, 0)", () -> new FareDesk(10), y -> y.change(0, 0));
        s.badArgument("seat(0, 0)", () -> new FareDesk(10), y -> y.seat(0, 0));
        s.badArgument("together(0)", () -> new FareDesk(10), y -> y.together(0));
        s.same("the first number", x.hold(0, 1, 1), 0);
    }

    private void limitOfAFare() {
        FareDesk x = new FareDesk(1);
        x.limit(3, 1);
        s.rooms(x, 6, 6, 6, 1);
        x.limit(2, 2);
        s.rooms(x, 6, 6, 2, 1);
        x.limit(1, 3);
        s.rooms(x, 6, 3, 2, 1);
        x.limit(0, 4);
        s.rooms(x, 4, 3, 2, 1);
        x.limit(0, 50);
        x.limit(1, 40);
        s.rooms(x, 50, 40, 2, 1);
        x.hold(3, 1, 9);
        x.limit(3, 0);
        s.same("one held above a new limit stays", x.of(0, 0), 1);
        s.allowed("a limit that stays as it is", () -> x, y -> y.limit(3, 0));
    }

    private void limitOfNoFare() {
        s.range("fare", 0, 3, () -> new FareDesk(1), (x, fare) -> x.limit(fare, 6));
    }

    private void limitNot0To99() {
        s.range("limit of fare 0", 0, 99, () -> Desks.limits(1, 50, 0, 0, 0), (x, limit) -> x.limit(0, limit));
        s.range("limit of fare 3", 0, 99, () -> Desks.wide(1), (x, limit) -> x.limit(3, limit));
        FareDesk x = Desks.wide(1);
        x.limit(3, 0);
        s.rooms(x, 99, 99, 99, 0);
        s.unsupported("hold when the limit is 0", () -> Desks.limits(1, 9, 9, 9, 0), y -> y.hold(3, 1, 1));
    }

    private void limitAboveTheFareBefore() {
        for (int fare = 1; fare < 4; fare++) {
            int one = fare;
            Sentences.Setup steps = () -> Desks.limits(1, 40, 30, 20, 10);
            int before = 50 - 10 * fare;
            s.allowed("as that of the fare before " + fare, steps, x -> x.limit(one, before));
            s.badArgument("one above that before " + fare, steps, x -> x.limit(one, before + 1));
            s.badArgument("99 for " + fare, steps, x -> x.limit(one, 99));
        }
        s.allowed("there is no fare before 0", () -> Desks.limits(1, 40, 30, 20, 10), x -> x.limit(0, 41));
    }

    private void limitBelowTheNextFare() {
        for (int fare = 0; fare < 3; fare++) {
            int one = fare;
            Sentences.Setup steps = () -> Desks.limits(1, 40, 30, 20, 10);
            int next = 30 - 10 * fare;
            s.allowed("as that of the fare after " + fare, steps, x -> x.limit(one, next));
            s.badArgument("one below that after " + fare, steps, x -> x.limit(one, next - 1));
            s.badArgument("0 for " + fare, steps, x -> x.limit(one, 0));
        }
        s.allowed("there is no fare after 3", () -> Desks.limits(1, 40, 30, 20, 10), x -> x.limit(3, 0));
    }

    private void limitWhenClosed() {
        s.allowed("open", () -> new FareDesk(1), x -> x.limit(0, 7));
        for (int fare = 0; fare < 4; fare++) {
            int one = fare;
            s.badState("closed, fare " + fare, Desks::closed, x -> x.limit(one, 6));
        }
    }

    private void limitIsWrongBeforeItIsClosed() {
        s.badArgument("closed, no fare", Desks::closed, x -> x.limit(4, 6));
        s.badArgument("closed, no fare", Desks::closed, x -> x.limit(-1, 6));
        s.badArgument("closed, no limit", Desks::closed, x -> x.limit(0, 100));
        s.badArgument("closed, no limit", Desks::closed, x -> x.limit(3, -1));
        s.badArgument("closed, above", Desks::closed, x -> x.limit(1, 7));
        s.badArgument("closed, below", Desks::closed, x -> x.limit(0, 5));
    }

    private void priceFromNowOn() {
        for (int fare = 0; fare < 4; fare++) {
            FareDesk x = new FareDesk(2);
            int before = x.hold(fare, 2, 9);
            x.price(fare, 77);
            s.same("one held before", x.confirm(before), 154);
            s.same("one held since", x.confirm(x.hold(fare, 1, 9)), 77);
            int other = (fare + 1) % 4;
            s.same("another fare", x.confirm(x.hold(other, 1, 9)), 400 - 100 * other);
        }
    }

    private void priceOfNoFare() {
        s.range("fare", 0, 3, () -> new FareDesk(1), (x, fare) -> x.price(fare, 1));
    }

    private void priceNot0To9999() {
        for (int fare = 0; fare < 4; fare++) {
            int one = fare;
            s.range("price", 0, 9999, () -> new FareDesk(1), (x, price) -> x.price(one, price));
        }
        s.allowed("a price that is above that of the fare before", () -> new FareDesk(1), x -> x.price(3, 9999));
        FareDesk x = new FareDesk(2);
        x.price(0, 9999);
        s.same("the most that a booking pays", x.confirm(x.hold(0, 6, 1)), 59994);
        x.price(0, 0);
        s.same("the least", x.confirm(x.hold(0, 6, 1)), 0);
        s.allowed("a price when closed", Desks::closed, y -> y.price(3, 5));
    }

    private void whatIsPaidStays() {
        FareDesk x = Desks.confirmed(1, 0, 3);
        x.price(0, 9999);
        s.same("paid", x.of(0, 4), 1200);
        s.same("till", x.count(4), 1200);
        s.same("back for one place", x.shrink(0, 1), 400);
        x.price(0, 0);
        s.same("back for the rest", x.cancel(0), 800);
        s.same("till", x.count(4), 0);
    }

    private void roomOfAFare() {
        FareDesk x = Desks.limits(1, 40, 30, 20, 10);
        s.rooms(x, 40, 30, 20, 10);
        x.join(3, 4, 9);
        s.rooms(x, 36, 26, 16, 6);
        x.close();
        s.rooms(x, 40, 30, 20, 10);
    }

    private void roomOfNoFare() {
        s.range("fare", 0, 3, () -> new FareDesk(1), (x, fare) -> x.room(fare));
        s.range("fare when closed", 0, 3, Desks::closed, (x, fare) -> x.room(fare));
    }
}
