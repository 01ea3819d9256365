/** The sentences of promises 11, 12 and 16: seat, together and at. */
final class SeatSentences {
    private final Sentences s;

    SeatSentences(Sentences s) {
        this.s = s;
    }

    void run() {
        s.test("Promise 11", "A seat, 6 * row + its number, for a confirmed booking: how many it has.",
            this::seatForAConfirmedBooking);
        s.test("Promise 11", "there is no such booking or seat;", this::noSuchBookingOrSeat);
        s.test("Promise 11", "it is not confirmed", this::seatOfOneNotConfirmed);
        s.test("Promise 11", "or has a seat for each place;", this::seatForEachPlace);
        s.test("Promise 11", "the seat is taken.", this::seatIsTaken);
        s.test("Promise 11", "IllegalArgumentException: there is no such booking or seat; IllegalStateException: it is"
            + " not confirmed, or has a seat for each place; UnsupportedOperationException: the seat is taken.",
            this::seatRefusesInOrder);
        together();
        s.test("Promise 16", "The booking that has a seat;", this::bookingThatHasASeat);
        s.test("Promise 16", "-1 when it is free", this::minus1WhenFree);
        s.test("Promise 16", ", or none.", this::minus1ForNoSeat);
    }

    private void together() {
        s.test("Promise 12", "Seats for all places of a confirmed booking that have none:", this::allThatHaveNone);
        s.test("Promise 12", "so many next to one another, all on one side of the aisle", this::onOneSide);
        s.test("Promise 12", ", in the first row where there are some", this::firstRowWhereThereAreSome);
        s.test("Promise 12", ", there the first such;", this::firstInTheRow);
        s.test("Promise 12", "or else so many next to one another in a row (over the aisle)", this::overTheAisle);
        s.test("Promise 12", "(over the aisle), likewise;", this::overTheAisleLikewise);
        s.test("Promise 12", "so many next to one another in a row", this::neverOverTwoRows);
        s.test("Promise 12", "or else the first ones that are free.", this::firstOnesThatAreFree);
        s.test("Promise 12", "The first one of them.", this::firstOneOfThem);
        s.test("Promise 12", "there is no such booking;", this::togetherOfNoBooking);
        s.test("Promise 12", "it is not confirmed", this::togetherOfOneNotConfirmed);
        s.test("Promise 12", "or has a seat for each place;", this::togetherWithASeatForEachPlace);
        s.test("Promise 12", "fewer are free (none is given then).", this::fewerAreFree);
        s.test("Promise 12", "IllegalStateException: it is not confirmed, or has a seat for each place;"
            + " UnsupportedOperationException: fewer are free", this::togetherRefusesInOrder);
    }

    private void seatForAConfirmedBooking() {
        FareDesk x = new FareDesk(3);
        int b = Desks.party(x, 2, 6);
        int[] seats = {17, 0, 6 * 1 + 5, 6 * 2 + 0, 2, 3};
        for (int i = 0; i < 6; i++) {
            s.same("how many with seat " + seats[i], x.seat(b, seats[i]), i + 1);
            s.same("at(" + seats[i] + ")", x.at(seats[i]), b);
            s.same("free seats", x.count(5), 18 - 1 - i);
        }
        s.seats(x, b, seats);
    }

    private void noSuchBookingOrSeat() {
        Sentences.Setup three = () -> {
            FareDesk x = new FareDesk(1);
            for (int i = 0; i < 3; i++) {
                Desks.party(x, i, 2);
            }
            return x;
        };
        s.range("booking", 0, 2, three, (x, b) -> x.seat(b, 0));
        for (int rows = 1; rows <= 10; rows++) {
            int all = rows;
            s.range("seat of " + rows + " rows", 0, 6 * rows - 1, () -> Desks.confirmed(all, 0, 1),
                (x, seat) -> x.seat(0, seat));
        }
    }

    private void seatOfOneNotConfirmed() {
        s.onlyIn("seat(0, 5)", new int[] {Desks.CONFIRMED}, x -> x.seat(0, 5));
    }

    private void seatForEachPlace() {
        for (int places = 1; places <= 6; places++) {
            int all = places;
            s.allowed("one place of " + places + " has none", () -> seated(all, all - 1), x -> x.seat(0, 11));
            s.badState("each of " + places + " has one", () -> seated(all, all), x -> x.seat(0, 11));
        }
        Sentences.Setup shrunk = () -> {
            FareDesk x = seated(3, 2);
            x.shrink(0, 1);
            return x;
        };
        s.badState("each has one since a place went", shrunk, x -> x.seat(0, 11));
    }

    /** Two rows, where booking 0 of so many places has the first so many seats. */
    private static FareDesk seated(int places, int seats) {
        FareDesk x = Desks.wide(2);
        Desks.party(x, 0, places);
        for (int seat = 0; seat < seats; seat++) {
            x.seat(0, seat);
        }
        return x;
    }

    private void seatIsTaken() {
        Sentences.Setup two = () -> {
            FareDesk x = seated(2, 1);
            Desks.party(x, 3, 1);
            return x;
        };
        s.unsupported("taken by itself", two, x -> x.seat(0, 0));
        s.unsupported("taken by another", two, x -> x.seat(1, 0));
        s.allowed("the one next to it", two, x -> x.seat(1, 1));
        FareDesk x = two.make();
        x.cancel(0);
        s.same("free again once it is cancelled", x.seat(1, 0), 1);
        FareDesk y = seated(2, 2);
        y.shrink(0, 1);
        s.same("free again once the place went", y.seat(Desks.party(y, 0, 1), 1), 1);
    }

    private void seatRefusesInOrder() {
        for (int state = Desks.HELD; state <= Desks.LEFT_BEHIND; state++) {
            int one = state;
            s.badArgument("no seat in state " + state, () -> Desks.with(one), x -> x.seat(0, 6));
            s.badArgument("no seat in state " + state, () -> Desks.with(one), x -> x.seat(0, -1));
        }
        s.badArgument("no seat, and each place has one", () -> seated(1, 1), x -> x.seat(0, 12));
        s.badArgument("no booking for a taken seat", () -> seated(1, 1), x -> x.seat(1, 0));
        s.badState("each place has one, the seat is taken", () -> seated(1, 1), x -> x.seat(0, 0));
        Sentences.Setup held = () -> {
            FareDesk x = seated(1, 1);
            x.hold(0, 1, 9);
            return x;
        };
        s.badState("not confirmed, the seat is taken", held, x -> x.seat(1, 0));
    }

    private void allThatHaveNone() {
        for (int places = 1; places <= 6; places++) {
            for (int seats = 0; seats < places; seats++) {
                FareDesk x = seated(places, seats);
                x.together(0);
                s.same("seats of " + places + " when it had " + seats, x.of(0, 3), places);
                s.same("free seats", x.count(5), 12 - places);
            }
        }
        FareDesk x = Desks.wide(2);
        int b = Desks.party(x, 0, 5);
        x.seat(b, 8);
        x.seat(b, 1);
        s.same("for the three that have none", x.together(b), 3);
        s.seats(x, b, 8, 1, 3, 4, 5);
    }

    /** So many seats for a new booking when these are taken: just those that are due. */
    private void given(int rows, int[] taken, int... due) {
        FareDesk x = Desks.take(Desks.wide(rows), taken);
        int b = Desks.party(x, 0, due.length);
        s.same("together for " + due.length, x.together(b), due[0]);
        s.seats(x, b, due);
    }

    private static int[] taken(int... seats) {
        return seats;
    }

    private void onOneSide() {
        given(1, taken(), 0);
        given(1, taken(), 0, 1);
        given(1, taken(), 0, 1, 2);
        given(1, taken(0), 3, 4, 5);
        given(1, taken(0, 1), 3, 4);
        given(2, taken(0, 5), 6, 7, 8);
        given(3, taken(0, 5, 6), 9, 10, 11);
        given(3, taken(0, 1, 4, 5, 7, 10), 12, 13);
        given(10, taken(1, 4, 7, 10, 13, 16, 19, 22, 25, 28, 31, 34, 37, 40, 43, 46, 49, 52, 55), 57, 58, 59);
    }

    private void firstRowWhereThereAreSome() {
        given(3, taken(2, 3), 6, 7, 8);
        given(3, taken(1, 4), 6, 7);
        given(3, taken(0, 1, 2, 3, 4, 5), 6);
        given(3, taken(1, 4, 7, 10), 12, 13, 14);
        given(3, taken(1, 5), 3, 4);
    }

    private void firstInTheRow() {
        given(1, taken(0), 1, 2);
        given(1, taken(2), 0, 1);
        given(1, taken(1), 3, 4);
        given(1, taken(1, 3), 4, 5);
        given(1, taken(0, 1, 2, 4), 3);
        given(2, taken(0, 1, 2, 3, 4, 5, 7, 9), 10, 11);
    }

    private void overTheAisle() {
        given(1, taken(), 0, 1, 2, 3);
        given(1, taken(), 0, 1, 2, 3, 4);
        given(1, taken(), 0, 1, 2, 3, 4, 5);
        given(1, taken(0, 1, 4, 5), 2, 3);
        given(1, taken(0, 5), 1, 2, 3);
        given(1, taken(0, 1, 5), 2, 3, 4);
        given(1, taken(0), 1, 2, 3, 4, 5);
        given(1, taken(0, 5), 1, 2, 3, 4);
    }

    private void overTheAisleLikewise() {
        given(2, taken(3), 6, 7, 8, 9);
        given(2, taken(0, 1, 3), 6, 7, 8, 9, 10);
        given(3, taken(5, 6), 12, 13, 14, 15, 16, 17);
        given(2, taken(2, 6), 7, 8, 9, 10);
        given(2, taken(0, 5, 6, 11), 1, 2, 3);
        given(2, taken(0, 3, 5, 6, 11), 7, 8, 9);
        given(2, taken(0, 2, 4, 6, 7, 10, 11), 8, 9);
    }

    private void neverOverTwoRows() {
        given(2, taken(0, 2, 3, 4, 7, 8, 10), 1, 5);
        given(2, taken(0, 1, 2, 9, 10, 11), 3, 4, 5, 6);
        given(2, taken(0, 1, 2, 3, 8, 9), 4, 5, 6, 7);
        given(2, taken(0, 1, 2, 3, 8, 11), 4, 5, 6);
    }

    private void firstOnesThatAreFree() {
        given(2, taken(1, 4, 7, 10), 0, 2, 3);
        given(2, taken(0, 1, 4, 7, 10), 2, 3, 5, 6, 8, 9);
        given(1, taken(0, 2, 3, 5), 1, 4);
        given(1, taken(1, 2, 3, 4), 0, 5);
        given(2, taken(2, 8), 0, 1, 3, 4, 5, 6);
        given(10, taken(1, 3, 4, 6, 7, 8, 9, 10, 11), 12, 13, 14, 15, 16, 17);
        FareDesk x = Desks.wide(10);
        for (int i = 0; i < 10; i++) {
            x.together(Desks.party(x, 0, 6));
        }
        x.shrink(0, 1);
        x.shrink(9, 1);
        int b = Desks.party(x, 0, 2);
        s.same("the first and the last row", x.together(b), 5);
        s.seats(x, b, 5, 59);
    }

    private void firstOneOfThem() {
        FareDesk x = Desks.wide(2);
        int b = Desks.party(x, 0, 3);
        x.seat(b, 0);
        s.same("not the first one that it has", x.together(b), 1);
        FareDesk y = Desks.wide(2);
        int c = Desks.party(y, 0, 3);
        y.seat(c, 11);
        s.same("of the two that it gets", y.together(c), 0);
        s.seats(y, c, 11, 0, 1);
        FareDesk z = Desks.wide(2);
        int d = Desks.party(z, 0, 3);
        z.seat(d, 4);
        z.seat(d, 1);
        s.same("just one", z.together(d), 0);
    }

    private void togetherOfNoBooking() {
        Sentences.Setup three = () -> {
            FareDesk x = new FareDesk(1);
            for (int i = 0; i < 3; i++) {
                Desks.party(x, i, 2);
            }
            return x;
        };
        s.range("booking", 0, 2, three, (x, b) -> x.together(b));
    }

    private void togetherOfOneNotConfirmed() {
        s.onlyIn("together(0)", new int[] {Desks.CONFIRMED}, x -> x.together(0));
    }

    private void togetherWithASeatForEachPlace() {
        for (int places = 1; places <= 6; places++) {
            int all = places;
            s.allowed("one place of " + places + " has none", () -> seated(all, all - 1), x -> x.together(0));
            s.badState("each of " + places + " has one", () -> seated(all, all), x -> x.together(0));
        }
    }

    private void fewerAreFree() {
        for (int places = 1; places <= 6; places++) {
            int all = places;
            s.allowed("just as many are free", () -> almostFull(all, all), x -> x.together(0));
            s.unsupported("one fewer is free", () -> almostFull(all, all - 1), x -> x.together(0));
            s.unsupported("none is free", () -> almostFull(all, 0), x -> x.together(0));
        }
        FareDesk x = almostFull(3, 2);
        x.shrink(0, 1);
        s.same("for the two places that are left", x.together(0), 4);
        Sentences.Setup oneHas = () -> {
            FareDesk y = almostFull(3, 3);
            y.seat(0, 4);
            return y;
        };
        s.allowed("what it has need not be free", oneHas, y -> y.together(0));
    }

    /** One row, where booking 0 of so many places has no seat, and so many seats are free. */
    private static FareDesk almostFull(int places, int free) {
        FareDesk x = Desks.wide(1);
        Desks.party(x, 0, places);
        for (int seat = 0; seat < 6 - free; seat++) {
            Desks.take(x, seat);
        }
        return x;
    }

    private void togetherRefusesInOrder() {
        Sentences.Setup full = () -> {
            FareDesk x = Desks.wide(1);
            x.together(Desks.party(x, 0, 6));
            x.hold(0, 1, 9);
            return x;
        };
        s.badState("each place has one, none is free", full, x -> x.together(0));
        s.badState("held, none is free", full, x -> x.together(1));
        s.badArgument("no booking, none is free", full, x -> x.together(2));
    }

    private void bookingThatHasASeat() {
        FareDesk x = Desks.wide(10);
        int first = Desks.party(x, 0, 2);
        int second = Desks.party(x, 3, 1);
        x.seat(first, 0);
        x.seat(second, 59);
        x.seat(first, 30);
        s.same("at(0)", x.at(0), first);
        s.same("at(59)", x.at(59), second);
        s.same("at(30)", x.at(30), first);
        x.close();
        s.same("at(59) once it boarded", x.at(59), second);
    }

    private void minus1WhenFree() {
        FareDesk x = Desks.take(Desks.wide(1), 3, 5);
        int[] due = {-1, -1, -1, 0, -1, 1};
        for (int seat = 0; seat < 6; seat++) {
            s.same("at(" + seat + ")", x.at(seat), due[seat]);
        }
        x.cancel(0);
        s.same("at(3) once it is cancelled", x.at(3), -1);
        s.same("at(5)", x.at(5), 1);
    }

    private void minus1ForNoSeat() {
        for (int rows = 1; rows <= 10; rows++) {
            FareDesk x = Desks.wide(rows);
            Desks.take(x, 0, 6 * rows - 1);
            s.same("the last seat", x.at(6 * rows - 1), 1);
            s.same("the one behind it", x.at(6 * rows), -1);
            s.same("the one before the first", x.at(-1), -1);
            s.same("far behind", x.at(Integer.MAX_VALUE), -1);
            s.same("far before", x.at(Integer.MIN_VALUE), -1);
        }
    }
}
