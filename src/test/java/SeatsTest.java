/** Promises 11, 12 and 16: seat, together and at. */
public final class SeatsTest {
    private static final Check check = new Check();

    public static void main(String[] args) {
        seat();
        seatRefusals();
        seatOfOtherStates();
        togetherOnOneSide();
        togetherOnTheOtherSide();
        togetherRowsBeforeTheAisle();
        togetherOverTheAisle();
        togetherAnywhere();
        togetherForTheRest();
        togetherNeverOverTwoRows();
        togetherOfOne();
        togetherRefusals();
        at();
        check.end();
    }

    /** A desk with overbooking, so that there may be more places than seats. */
    private static FareDesk wide(int rows) {
        FareDesk x = new FareDesk(rows);
        for (int fare = 0; fare < 4; fare++) {
            x.limit(fare, 99);
        }
        return x;
    }

    private static int party(FareDesk x, int places) {
        int booking = x.hold(0, places, 50);
        x.confirm(booking);
        return booking;
    }

    /** Takes just these seats, each for a party of one. */
    private static void take(FareDesk x, int... seats) {
        for (int seat : seats) {
            x.seat(party(x, 1), seat);
        }
    }

    private static void holds(FareDesk x, int booking, int... seats) {
        check.same("seats of " + booking, x.of(booking, 3), seats.length);
        for (int seat : seats) {
            check.same("at(" + seat + ")", x.at(seat), booking);
        }
    }

    private static void seat() {
        FareDesk x = wide(2);
        int b = party(x, 3);
        check.same("first seat", x.seat(b, 11), 1);
        check.same("second seat", x.seat(b, 0), 2);
        check.same("third seat", x.seat(b, 7), 3);
        holds(x, b, 11, 0, 7);
        check.same("the first that was given", x.of(b, 6), 11);
        check.same("free seats", x.count(5), 9);
    }

    private static void seatRefusals() {
        FareDesk x = wide(1);
        int b = party(x, 2);
        check.badArgument("no booking", () -> x.seat(1, 0));
        check.badArgument("no booking -1", () -> x.seat(-1, 0));
        check.badArgument("no seat 6", () -> x.seat(b, 6));
        check.badArgument("no seat -1", () -> x.seat(b, -1));
        check.badArgument("no seat MAX", () -> x.seat(b, Integer.MAX_VALUE));
        x.seat(b, 2);
        check.unsupported("taken by itself", () -> x.seat(b, 2));
        int c = party(x, 1);
        check.unsupported("taken by another", () -> x.seat(c, 2));
        check.same("none was given", x.of(c, 3), 0);
        check.same("it stays", x.at(2), b);
        x.seat(b, 3);
        check.badState("a seat for each place", () -> x.seat(b, 4));
        check.badState("that before the taken seat", () -> x.seat(b, 2));
        check.badArgument("no seat before the state", () -> x.seat(b, 6));
    }

    private static void seatOfOtherStates() {
        FareDesk x = new FareDesk(1);
        x.hold(0, 4, 1);
        x.join(0, 5, 1);
        check.badState("held", () -> x.seat(0, 0));
        check.badState("waiting", () -> x.seat(1, 0));
        check.badState("held, together", () -> x.together(0));
        check.badState("waiting, together", () -> x.together(1));
        x.cancel(1);
        x.tick(1);
        check.badState("cancelled", () -> x.seat(1, 0));
        check.badState("expired", () -> x.seat(0, 0));
        party(x, 2);
        x.close();
        check.badState("boarded", () -> x.seat(2, 5));
        check.badState("boarded, together", () -> x.together(2));
    }

    private static void togetherOnOneSide() {
        FareDesk x = wide(2);
        check.same("first pair", x.together(party(x, 2)), 0);
        check.same("next pair is past the aisle", x.together(party(x, 2)), 3);
        holds(x, 1, 3, 4);
        check.same("one fills the gap", x.together(party(x, 1)), 2);
        check.same("three in the next row", x.together(party(x, 3)), 6);
        holds(x, 3, 6, 7, 8);
        check.same("the other side", x.together(party(x, 3)), 9);
    }

    private static void togetherOnTheOtherSide() {
        FareDesk x = wide(1);
        take(x, 0);
        int b = party(x, 2);
        check.same("the first pair of the side", x.together(b), 1);
        take(x, 4);
        check.unsupported("too few", () -> x.together(party(x, 3)));
        check.same("two apart", x.together(party(x, 2)), 3);
        check.same("full", x.count(5), 0);
    }

    private static void togetherRowsBeforeTheAisle() {
        FareDesk x = wide(3);
        take(x, 0, 5, 6);
        int b = party(x, 3);
        check.same("a side of a later row before over the aisle", x.together(b), 9);
        holds(x, b, 9, 10, 11);
    }

    private static void togetherOverTheAisle() {
        FareDesk x = wide(2);
        take(x, 0, 5, 6, 11);
        int b = party(x, 3);
        check.same("three over the aisle", x.together(b), 1);
        holds(x, b, 1, 2, 3);
        int c = party(x, 4);
        check.same("four over the aisle", x.together(c), 7);
        holds(x, c, 7, 8, 9, 10);
        FareDesk y = wide(2);
        take(y, 3);
        int d = party(y, 6);
        check.same("six in a row", y.together(d), 6);
        holds(y, d, 6, 7, 8, 9, 10, 11);
    }

    private static void togetherAnywhere() {
        FareDesk x = wide(2);
        take(x, 1, 4, 7, 10);
        int b = party(x, 3);
        check.same("the first ones that are free", x.together(b), 0);
        holds(x, b, 0, 2, 3);
        int c = party(x, 4);
        check.same("over two rows", x.together(c), 5);
        holds(x, c, 5, 6, 8, 9);
        check.same("free seats", x.count(5), 1);
    }

    private static void togetherForTheRest() {
        FareDesk x = wide(2);
        int b = party(x, 5);
        x.seat(b, 8);
        x.seat(b, 1);
        check.same("three for the rest", x.together(b), 3);
        holds(x, b, 8, 1, 3, 4, 5);
        check.same("first one that it was given", x.of(b, 6), 8);
        check.badState("again", () -> x.together(b));
        x.shrink(b, 2);
        holds(x, b, 8, 1, 3);
        check.same("the last ones given go", x.at(4), -1);
    }

    private static void togetherNeverOverTwoRows() {
        FareDesk x = wide(2);
        take(x, 0, 1, 2, 9, 10, 11);
        int b = party(x, 4);
        check.same("first free ones", x.together(b), 3);
        holds(x, b, 3, 4, 5, 6);
        FareDesk y = wide(2);
        take(y, 0, 2, 3, 4, 7, 8, 10);
        int c = party(y, 2);
        check.same("5 and 6 are not next to one another", y.together(c), 1);
        holds(y, c, 1, 5);
    }

    private static void togetherOfOne() {
        FareDesk x = wide(10);
        for (int i = 0; i < 59; i++) {
            check.same("the next seat", x.together(party(x, 1)), i);
        }
        int last = party(x, 2);
        check.unsupported("one free for two", () -> x.together(last));
        check.same("none is given", x.of(last, 3), 0);
        check.same("the last is free", x.at(59), -1);
        x.shrink(last, 1);
        check.same("the last seat", x.together(last), 59);
    }

    private static void togetherRefusals() {
        FareDesk x = wide(1);
        check.badArgument("none", () -> x.together(0));
        check.badArgument("below none", () -> x.together(-1));
        int b = party(x, 6);
        x.together(b);
        check.badState("each place has a seat", () -> x.together(b));
        int c = party(x, 1);
        check.unsupported("none is free", () -> x.together(c));
        x.cancel(b);
        check.badState("cancelled", () -> x.together(b));
        check.same("free again", x.together(c), 0);
    }

    private static void at() {
        FareDesk x = wide(1);
        take(x, 3, 5);
        int[] due = {-1, -1, -1, 0, -1, 1};
        for (int seat = 0; seat < 6; seat++) {
            check.same("at(" + seat + ")", x.at(seat), due[seat]);
        }
        check.same("at(6)", x.at(6), -1);
        check.same("at(-1)", x.at(-1), -1);
        check.same("at(MIN)", x.at(Integer.MIN_VALUE), -1);
        check.same("at(MAX)", x.at(Integer.MAX_VALUE), -1);
        x.cancel(0);
        check.same("at(3) once cancelled", x.at(3), -1);
    }
}
