import java.util.Arrays;

/** The sentences of the till and of promises 8 and 9: cancel and shrink. */
final class RefundSentences {
    private static final int[] COUNTING_OR_WAITING = {Desks.HELD, Desks.CONFIRMED, Desks.WAITING};

    private final Sentences s;

    RefundSentences(Sentences s) {
        this.s = s;
    }

    void run() {
        till();
        s.test("Promise 8", "A booking that counts, or is waiting, is cancelled: what goes back;", this::cancelled);
        s.test("Promise 8", "what goes back;", this::whatGoesBackOfOneCancelled);
        s.test("Promise 8", "its seats are free.", this::seatsOfOneCancelledAreFree);
        s.test("Promise 8", "IllegalArgumentException: there is none;", this::cancelOfNone);
        s.test("Promise 8", "it is in another state.", this::cancelInAnotherState);
        shrink();
    }

    private void till() {
        s.test("Terms", "THE TILL: when a booking is confirmed, its places times its fare's price", this::comesIn);
        s.test("Terms", "(as it is then)", this::priceAsItIsThen);
        s.test("Terms", "come into it, and are its PAID.", this::paidIsWhatCameIn);
        s.test("Terms", "When a confirmed one is cancelled", this::onlyConfirmedOnesPayBack);
        s.test("Terms", ", or as many of its places are, a part goes back, of what is paid for them:",
            this::asManyOfItsPlaces);
        s.test("Terms", "all of it for fare 0, 3 of 4 for fare 1, 2 of 4 for fare 2, nothing for fare 3",
            this::partByFare);
        s.test("Terms", "(cut to whole numbers);", this::cutToWholeNumbers);
        s.test("Terms", "paid for k of its n places is paid * k / n (cut).", this::paidForSome);
        s.test("Terms", "What is paid of it is less by that then, whether it goes back or not.", this::paidIsLess);
    }

    private void shrink() {
        s.test("Promise 9", "A booking that counts, or is waiting, has n places fewer:", this::placesFewer);
        s.test("Promise 9", "what goes back;", this::whatGoesBackOfSome);
        s.test("Promise 9", "of its seats the last ones given go", this::lastSeatsGivenGo);
        s.test("Promise 9", ", if there are more than places.", this::onlyIfThereAreMoreThanPlaces);
        s.test("Promise 9", "there is no such booking", this::shrinkOfNoBooking);
        s.test("Promise 9", "or n is not 1 .. its places less 1;", this::shrinkByTooFewOrTooMany);
        s.test("Promise 9", "it is in another state.", this::shrinkInAnotherState);
        s.test("Promise 9", "IllegalArgumentException: there is no such booking, or n is not 1 .. its places less 1;"
            + " IllegalStateException: it is in another state.", this::shrinkRefusesInOrder);
    }

    private static FareDesk priced(int fare, int price, int places) {
        FareDesk x = new FareDesk(1);
        x.price(fare, price);
        Desks.party(x, fare, places);
        return x;
    }

    private void comesIn() {
        for (int fare = 0; fare < 4; fare++) {
            for (int places = 1; places <= 6; places++) {
                FareDesk x = Desks.confirmed(1, fare, places);
                s.same("till", x.count(4), places * (400 - 100 * fare));
            }
        }
        FareDesk x = Desks.wide(10);
        x.price(0, 9999);
        for (int i = 0; i < 16; i++) {
            Desks.party(x, 0, 6);
        }
        s.same("till of 96 places at the highest price", x.count(4), 96 * 9999);
        FareDesk y = new FareDesk(1);
        y.hold(0, 3, 9);
        y.join(0, 6, 9);
        s.same("nothing before they are confirmed", y.count(4), 0);
    }

    private void priceAsItIsThen() {
        FareDesk x = new FareDesk(1);
        x.hold(2, 2, 9);
        x.price(2, 11);
        x.price(2, 13);
        s.same("the price when it is confirmed", x.confirm(0), 26);
        x.price(2, 17);
        s.same("not a later one", x.of(0, 4), 26);
    }

    private void paidIsWhatCameIn() {
        FareDesk x = new FareDesk(1);
        x.hold(1, 2, 9);
        x.hold(2, 2, 9);
        s.same("paid of a held one", x.of(0, 4), 0);
        s.same("what confirm answers", x.confirm(0), 600);
        s.same("paid", x.of(0, 4), 600);
        s.same("paid of another", x.of(1, 4), 0);
        x.confirm(1);
        s.same("till", x.count(4), 1000);
    }

    private void onlyConfirmedOnesPayBack() {
        FareDesk x = new FareDesk(1);
        Desks.party(x, 0, 1);
        x.hold(0, 5, 9);
        x.join(0, 6, 9);
        s.same("back of a held one's place", x.shrink(1, 1), 0);
        s.same("back of a waiting one's place", x.shrink(2, 1), 0);
        s.same("back of a held one", x.cancel(1), 0);
        s.same("back of the one that waited", x.cancel(2), 0);
        s.same("till", x.count(4), 400);
        s.same("back of a confirmed one", x.cancel(0), 400);
        s.same("till", x.count(4), 0);
    }

    private void asManyOfItsPlaces() {
        for (int k = 1; k <= 5; k++) {
            FareDesk x = Desks.confirmed(1, 1, 6);
            s.same("back for " + k + " of 6", x.shrink(0, k), 225 * k);
            s.same("till", x.count(4), 1800 - 225 * k);
            s.same("back for the rest", x.cancel(0), 225 * (6 - k));
            s.same("till", x.count(4), 450);
        }
    }

    private void partByFare() {
        int[] due = {400, 225, 100, 0};
        for (int fare = 0; fare < 4; fare++) {
            FareDesk x = Desks.confirmed(1, fare, 2);
            int paid = 400 - 100 * fare;
            s.same("back by shrink, fare " + fare, x.shrink(0, 1), due[fare]);
            s.same("till", x.count(4), 2 * paid - due[fare]);
            s.same("back by cancel, fare " + fare, x.cancel(0), due[fare]);
            s.same("till", x.count(4), 2 * paid - 2 * due[fare]);
        }
    }

    private void cutToWholeNumbers() {
        int[] threeOf4 = {0, 0, 1, 2, 3, 3, 4, 5, 6};
        int[] twoOf4 = {0, 0, 1, 1, 2, 2, 3, 3, 4};
        for (int price = 0; price <= 8; price++) {
            s.same("3 of 4 of " + price, priced(1, price, 1).cancel(0), threeOf4[price]);
            s.same("2 of 4 of " + price, priced(2, price, 1).cancel(0), twoOf4[price]);
            s.same("all of " + price, priced(0, price, 1).cancel(0), price);
            s.same("nothing of " + price, priced(3, price, 1).cancel(0), 0);
        }
        FareDesk one = priced(1, 1, 3);
        s.same("3 of 4 of 3 at once", one.cancel(0), 2);
        s.same("the cut stays in the till", one.count(4), 1);
        FareDesk byOne = priced(1, 1, 3);
        s.same("3 of 4 of 1", byOne.shrink(0, 1), 0);
        s.same("3 of 4 of 1 again", byOne.shrink(0, 1), 0);
        s.same("till", byOne.count(4), 3);
        s.same("3 of 4 of the most", priced(1, 9999, 6).cancel(0), 44995);
        s.same("2 of 4 of the most", priced(2, 9999, 5).cancel(0), 24997);
    }

    private void paidForSome() {
        for (int n = 2; n <= 6; n++) {
            for (int k = 1; k < n; k++) {
                FareDesk x = priced(0, 7, n);
                s.same("paid for " + k + " of " + n, x.shrink(0, k), 7 * k);
                s.same("paid for the others", x.of(0, 4), 7 * (n - k));
            }
        }
        FareDesk most = priced(0, 9999, 6);
        s.same("for 5 of 6 of the most", most.shrink(0, 5), 49995);
        s.same("for the last", most.cancel(0), 9999);
        s.same("0 for 5 of 6 at no price", priced(0, 0, 6).shrink(0, 5), 0);
    }

    private void paidIsLess() {
        for (int fare = 0; fare < 4; fare++) {
            FareDesk x = priced(fare, 7, 5);
            x.shrink(0, 1);
            s.same("paid for 4, fare " + fare, x.of(0, 4), 28);
            x.shrink(0, 3);
            s.same("paid for 1, fare " + fare, x.of(0, 4), 7);
            x.cancel(0);
            s.same("paid of a cancelled one, fare " + fare, x.of(0, 4), 0);
        }
    }

    private void cancelled() {
        for (int state : COUNTING_OR_WAITING) {
            FareDesk x = Desks.with(state);
            s.same("what goes back in state " + state, x.cancel(0), state == Desks.CONFIRMED ? 675 : 0);
            s.same("its state", x.of(0, 0), 4);
            s.same("when it expires", x.of(0, 5), -1);
            s.same("places", x.count(2), 0);
            s.same("the list", x.count(3), 0);
            s.same("how many bookings", x.count(1), 1);
            s.same("its fare stays told", x.of(0, 1), 1);
            s.same("its places stay told", x.of(0, 2), 3);
        }
        FareDesk x = Desks.with(Desks.WAITING);
        x.cancel(0);
        x.limit(0, 99);
        x.limit(1, 99);
        s.same("one cancelled is served no more", x.of(0, 0), 4);
        FareDesk y = Desks.with(Desks.HELD);
        y.cancel(0);
        y.tick(100);
        s.same("one cancelled does not expire", y.of(0, 0), 4);
    }

    private void whatGoesBackOfOneCancelled() {
        int[] back = {21, 15, 10, 0};
        for (int fare = 0; fare < 4; fare++) {
            FareDesk x = priced(fare, 7, 3);
            s.same("back of fare " + fare, x.cancel(0), back[fare]);
            s.same("till", x.count(4), 21 - back[fare]);
        }
    }

    private void seatsOfOneCancelledAreFree() {
        FareDesk x = Desks.wide(1);
        Desks.party(x, 0, 3);
        Desks.party(x, 0, 2);
        x.seat(0, 5);
        x.seat(1, 2);
        x.seat(0, 0);
        x.cancel(0);
        s.seats(x, 0);
        s.seats(x, 1, 2);
        s.same("free seats", x.count(5), 5);
        s.same("a free one can be given", x.seat(1, 5), 2);
        FareDesk none = Desks.confirmed(1, 0, 3);
        none.cancel(0);
        s.same("free seats when it had none", none.count(5), 6);
    }

    private void cancelOfNone() {
        s.range("booking", 0, 2, RefundSentences::threeBookings, (x, b) -> x.cancel(b));
    }

    /** One held, one confirmed and one waiting, each of 3 places. */
    private static FareDesk threeBookings() {
        FareDesk x = new FareDesk(1);
        x.hold(0, 3, 9);
        Desks.party(x, 1, 3);
        x.join(2, 3, 9);
        return x;
    }

    private void cancelInAnotherState() {
        s.onlyIn("cancel(0)", COUNTING_OR_WAITING, x -> x.cancel(0));
    }

    private void placesFewer() {
        for (int state : COUNTING_OR_WAITING) {
            FareDesk x = Desks.with(state);
            int room = x.room(0);
            s.same("back in state " + state, x.shrink(0, 1), state == Desks.CONFIRMED ? 225 : 0);
            s.same("its places", x.of(0, 2), 2);
            // The one that waited is served now, for fare 1 has room for 2.
            s.same("its state", x.of(0, 0), state == Desks.WAITING ? Desks.HELD : state);
            s.same("room(0)", x.room(0), state == Desks.WAITING ? room - 2 : room + 1);
            s.same("places", x.count(2), 2);
        }
        FareDesk x = new FareDesk(1);
        x.hold(0, 6, 9);
        x.join(0, 6, 9);
        x.shrink(1, 5);
        s.same("one that waits on has fewer too", x.of(1, 2), 1);
        s.same("its state", x.of(1, 0), 3);
        x.shrink(0, 5);
        s.states(x, 1, 1);
        s.same("it expires as before", x.of(0, 5), 9);
        s.same("paid for what is left", x.confirm(0), 400);
        shrunkWhileWaiting();
    }

    private void shrunkWhileWaiting() {
        FareDesk x = Desks.confirmed(1, 0, 6);
        x.join(0, 4, 7);
        x.join(0, 2, 9);
        x.shrink(1, 2);
        x.shrink(0, 2);
        s.states(x, 2, 1, 3);
        s.same("its place on the list and its ticks stay", x.of(1, 5), 7);
    }

    private void whatGoesBackOfSome() {
        int[] backOf7 = {7, 5, 3, 0};
        int[] backOf21 = {21, 15, 10, 0};
        for (int fare = 0; fare < 4; fare++) {
            FareDesk x = priced(fare, 7, 5);
            x.price(fare, 9000);
            s.same("back for 1 of 5", x.shrink(0, 1), backOf7[fare]);
            s.same("till", x.count(4), 35 - backOf7[fare]);
            s.same("back for 3 of 4", x.shrink(0, 3), backOf21[fare]);
            s.same("till", x.count(4), 35 - backOf7[fare] - backOf21[fare]);
            s.same("still confirmed", x.of(0, 0), 2);
        }
    }

    private static FareDesk seated(int places, int... seats) {
        FareDesk x = Desks.confirmed(1, 0, places);
        for (int seat : seats) {
            x.seat(0, seat);
        }
        return x;
    }

    private void lastSeatsGivenGo() {
        for (int n = 1; n <= 4; n++) {
            FareDesk x = seated(5, 4, 0, 5, 1, 3);
            x.shrink(0, n);
            int[] order = {4, 0, 5, 1, 3};
            int[] left = Arrays.copyOf(order, 5 - n);
            s.seats(x, 0, left);
            s.same("free seats", x.count(5), 1 + n);
            for (int i = 5 - n; i < 5; i++) {
                s.same("at(" + order[i] + ")", x.at(order[i]), -1);
            }
        }
        FareDesk again = seated(3, 5, 0, 3);
        again.shrink(0, 1);
        again.close();
        s.seats(again, 0, 5, 0);
    }

    private void onlyIfThereAreMoreThanPlaces() {
        FareDesk x = seated(5, 5, 0, 3);
        x.shrink(0, 1);
        s.seats(x, 0, 5, 0, 3);
        x.shrink(0, 1);
        s.seats(x, 0, 5, 0, 3);
        s.same("free seats", x.count(5), 3);
        x.shrink(0, 1);
        s.seats(x, 0, 5, 0);
        s.same("free seats", x.count(5), 4);
        FareDesk none = seated(5);
        none.shrink(0, 4);
        s.seats(none, 0);
        s.same("free seats", none.count(5), 6);
        s.same("the place left can have one", none.seat(0, 2), 1);
    }

    private void shrinkOfNoBooking() {
        s.range("booking", 0, 2, RefundSentences::threeBookings, (x, b) -> x.shrink(b, 1));
    }

    private void shrinkByTooFewOrTooMany() {
        for (int places = 2; places <= 6; places++) {
            int all = places;
            s.range("n of " + places, 1, places - 1, () -> Desks.confirmed(1, 0, all), (x, n) -> x.shrink(0, n));
        }
        for (int n = -1; n <= 2; n++) {
            int some = n;
            s.badArgument(n + " of one place", () -> Desks.confirmed(1, 0, 1), x -> x.shrink(0, some));
        }
        Sentences.Setup shrunk = () -> {
            FareDesk x = Desks.confirmed(1, 0, 4);
            x.shrink(0, 2);
            return x;
        };
        s.range("n of what is left", 1, 1, shrunk, (x, n) -> x.shrink(0, n));
        for (int state : COUNTING_OR_WAITING) {
            s.range("n in state " + state, 1, 2, () -> Desks.with(state), (x, n) -> x.shrink(0, n));
        }
    }

    private void shrinkInAnotherState() {
        s.onlyIn("shrink(0, 1)", COUNTING_OR_WAITING, x -> x.shrink(0, 1));
        s.onlyIn("shrink(0, 2)", COUNTING_OR_WAITING, x -> x.shrink(0, 2));
    }

    private void shrinkRefusesInOrder() {
        for (int state = Desks.CANCELLED; state <= Desks.LEFT_BEHIND; state++) {
            int one = state;
            s.badArgument("n of 0 in state " + state, () -> Desks.with(one), x -> x.shrink(0, 0));
            s.badArgument("n of all in state " + state, () -> Desks.with(one), x -> x.shrink(0, 3));
        }
        s.badArgument("no booking and no n", () -> new FareDesk(1), x -> x.shrink(0, 0));
    }
}
