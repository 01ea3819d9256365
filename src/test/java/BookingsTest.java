/** Promises 5 to 10: hold, join, confirm, cancel, shrink and change; the till. */
public final class BookingsTest {
    private static final Check check = new Check();

    public static void main(String[] args) {
        hold();
        holdRefusals();
        mostBookings();
        holdPassesTheWaitingList();
        join();
        joinRefusals();
        servedInOrder();
        confirm();
        cancelPaysByFare();
        cancelOfOnePlace();
        cancelOfOtherStates();
        cancelServes();
        shrinkPays();
        shrinkTakesTheLastSeats();
        shrinkOfHeldAndWaiting();
        shrinkRefusals();
        change();
        changeRefusals();
        changeServes();
        changedFareCountsForMoneyBack();
        check.end();
    }

    private static FareDesk confirmed(int rows, int fare, int places) {
        FareDesk x = new FareDesk(rows);
        x.confirm(x.hold(fare, places, 50));
        return x;
    }

    private static void hold() {
        FareDesk x = new FareDesk(2);
        x.tick(3);
        check.same("first number", x.hold(2, 6, 50), 0);
        check.same("second number", x.hold(1, 1, 1), 1);
        check.same("state", x.of(0, 0), 1);
        check.same("fare", x.of(0, 1), 2);
        check.same("places", x.of(0, 2), 6);
        check.same("paid", x.of(0, 4), 0);
        check.same("expires", x.of(0, 5), 53);
        check.same("expires of the second", x.of(1, 5), 4);
        check.same("places in all", x.count(2), 7);
    }

    private static void holdRefusals() {
        FareDesk x = new FareDesk(1);
        check.badArgument("fare -1", () -> x.hold(-1, 1, 1));
        check.badArgument("fare 4", () -> x.hold(4, 1, 1));
        check.badArgument("places 0", () -> x.hold(0, 0, 1));
        check.badArgument("places 7", () -> x.hold(0, 7, 1));
        check.badArgument("ticks 0", () -> x.hold(0, 1, 0));
        check.badArgument("ticks 51", () -> x.hold(0, 1, 51));
        x.hold(0, 5, 9);
        check.unsupported("too little room", () -> x.hold(0, 2, 9));
        check.badArgument("a wrong argument before the room", () -> x.hold(0, 6, 51));
        check.same("no booking came of it", x.count(1), 1);
        check.same("as much as there is room for", x.hold(0, 1, 9), 1);
        x.close();
        check.badState("closed", () -> x.hold(0, 1, 1));
        check.badState("closed before the room", () -> x.hold(0, 6, 1));
        check.badArgument("a wrong argument before closed", () -> x.hold(0, 0, 1));
    }

    private static void mostBookings() {
        FareDesk x = new FareDesk(10);
        x.limit(3, 0);
        for (int i = 0; i < 60; i++) {
            check.same("number", i % 2 == 0 ? x.hold(0, 1, 5) : x.join(3, 6, 5), i);
        }
        check.same("how many", x.count(1), 60);
        check.badState("hold of the 61st", () -> x.hold(0, 1, 1));
        check.badState("join of the 61st", () -> x.join(0, 1, 1));
        check.badState("too many before the room", () -> x.hold(3, 6, 1));
        check.badArgument("a wrong argument before too many", () -> x.join(0, 7, 1));
        check.badArgument("the 61st is none", () -> x.of(60, 0));
        check.same("the 60th", x.of(59, 2), 6);
        x.cancel(0);
        check.badState("a cancelled one keeps its number", () -> x.hold(0, 1, 1));
        check.same("list of 30 of 60", x.count(3), 30);
        x.tick(5);
        check.same("all held ones of 60 expire", x.count(2), 0);
        check.same("close of 60", x.close(), 0);
    }

    private static void holdPassesTheWaitingList() {
        FareDesk x = new FareDesk(1);
        x.hold(0, 4, 50);
        x.join(0, 3, 5);
        check.same("hold though one waits", x.hold(0, 2, 5), 2);
        check.same("it still waits", x.of(1, 0), 3);
    }

    private static void join() {
        FareDesk x = new FareDesk(1);
        x.tick(2);
        check.same("number", x.join(1, 4, 7), 0);
        check.same("served at once", x.of(0, 0), 1);
        check.same("expires", x.of(0, 5), 9);
        check.same("list", x.count(3), 0);
        check.same("number of one that waits", x.join(1, 3, 50), 1);
        check.same("it waits", x.of(1, 0), 3);
        check.same("it expires never", x.of(1, 5), -1);
        check.same("list", x.count(3), 1);
        check.same("it has no share", x.count(2), 4);
        check.same("a smaller one passes", x.of(x.join(1, 2, 1), 0), 1);
        check.badState("confirm of one that waits", () -> x.confirm(1));
    }

    private static void joinRefusals() {
        FareDesk x = new FareDesk(1);
        check.badArgument("fare -1", () -> x.join(-1, 1, 1));
        check.badArgument("fare 4", () -> x.join(4, 1, 1));
        check.badArgument("places 0", () -> x.join(0, 0, 1));
        check.badArgument("places 7", () -> x.join(0, 7, 1));
        check.badArgument("ticks 0", () -> x.join(0, 1, 0));
        check.badArgument("ticks 51", () -> x.join(0, 1, 51));
        check.same("no booking came of it", x.count(1), 0);
        x.close();
        check.badState("closed", () -> x.join(0, 1, 1));
        check.badArgument("a wrong argument before closed", () -> x.join(0, 1, 0));
    }

    private static void servedInOrder() {
        FareDesk x = new FareDesk(1);
        x.limit(3, 2);
        x.hold(0, 6, 50);
        x.join(3, 3, 5);
        x.join(0, 4, 6);
        x.join(1, 3, 7);
        x.join(2, 2, 8);
        x.tick(10);
        x.cancel(0);
        check.same("its fare has never so much room", x.of(1, 0), 3);
        check.same("the first that fits", x.of(2, 0), 1);
        check.same("held from now on", x.of(2, 5), 16);
        check.same("no room any more", x.of(3, 0), 3);
        check.same("the next that fits", x.of(4, 0), 1);
        check.same("held from now on", x.of(4, 5), 18);
        check.same("list", x.count(3), 2);
    }

    private static void confirm() {
        FareDesk x = new FareDesk(2);
        x.hold(1, 3, 5);
        x.hold(2, 2, 5);
        check.same("paid", x.confirm(0), 900);
        check.same("paid of the second", x.confirm(1), 400);
        check.same("state", x.of(0, 0), 2);
        check.same("of paid", x.of(0, 4), 900);
        check.same("expires never", x.of(0, 5), -1);
        check.same("till", x.count(4), 1300);
        check.same("no seats", x.of(0, 3), 0);
        check.badState("confirm again", () -> x.confirm(0));
        check.badArgument("none", () -> x.confirm(2));
        check.badArgument("below none", () -> x.confirm(-1));
        x.tick(100);
        check.same("does not expire", x.of(0, 0), 2);
    }

    private static void cancelPaysByFare() {
        int[] back = {21, 15, 10, 0};
        for (int fare = 0; fare < 4; fare++) {
            FareDesk x = new FareDesk(1);
            x.price(fare, 7);
            x.confirm(x.hold(fare, 3, 5));
            x.together(0);
            check.same("back of fare " + fare, x.cancel(0), back[fare]);
            check.same("till", x.count(4), 21 - back[fare]);
            check.same("state", x.of(0, 0), 4);
            check.same("paid", x.of(0, 4), 0);
            check.same("seats", x.of(0, 3), 0);
            check.same("first seat", x.of(0, 6), -1);
            check.same("the seat is free", x.at(0), -1);
            check.same("free seats", x.count(5), 6);
            check.same("room", x.room(3), 6);
            check.same("its places stay told", x.of(0, 2), 3);
        }
    }

    private static void cancelOfOnePlace() {
        FareDesk x = confirmed(1, 1, 1);
        check.same("back of one place", x.cancel(0), 225);
        check.same("till", x.count(4), 75);
        check.same("paid", x.of(0, 4), 0);
    }

    private static void cancelOfOtherStates() {
        FareDesk x = new FareDesk(1);
        x.hold(0, 2, 1);
        x.hold(0, 4, 50);
        x.join(0, 6, 5);
        check.same("back of a waiting one", x.cancel(2), 0);
        check.same("list", x.count(3), 0);
        check.same("back of a held one", x.cancel(1), 0);
        check.same("room", x.room(0), 4);
        check.badState("cancelled", () -> x.cancel(1));
        x.tick(1);
        check.badState("expired", () -> x.cancel(0));
        check.badArgument("none", () -> x.cancel(3));
        check.badArgument("below none", () -> x.cancel(-1));
        x.confirm(x.hold(0, 1, 1));
        x.close();
        check.badState("boarded", () -> x.cancel(3));
    }

    private static void cancelServes() {
        FareDesk x = confirmed(1, 0, 6);
        x.join(3, 6, 4);
        check.same("back", x.cancel(0), 2400);
        check.same("served", x.of(1, 0), 1);
        check.same("places", x.count(2), 6);
    }

    private static void shrinkPays() {
        int[] backOf7 = {7, 5, 3, 0};
        int[] backOf21 = {21, 15, 10, 0};
        for (int fare = 0; fare < 4; fare++) {
            FareDesk x = new FareDesk(1);
            x.price(fare, 7);
            x.confirm(x.hold(fare, 5, 5));
            x.price(fare, 9000);
            check.same("back for 1 of 5", x.shrink(0, 1), backOf7[fare]);
            check.same("paid for 4", x.of(0, 4), 28);
            check.same("till", x.count(4), 35 - backOf7[fare]);
            check.same("back for 3 of 4", x.shrink(0, 3), backOf21[fare]);
            check.same("paid for 1", x.of(0, 4), 7);
            check.same("till", x.count(4), 35 - backOf7[fare] - backOf21[fare]);
            check.same("places", x.of(0, 2), 1);
            check.same("room", x.room(fare), 5);
            check.same("still confirmed", x.of(0, 0), 2);
        }
    }

    private static void shrinkTakesTheLastSeats() {
        FareDesk x = confirmed(1, 0, 5);
        x.seat(0, 5);
        x.seat(0, 0);
        x.seat(0, 3);
        x.shrink(0, 2);
        check.same("as many seats as places: all stay", x.of(0, 3), 3);
        x.shrink(0, 1);
        check.same("seats", x.of(0, 3), 2);
        check.same("the last one given goes", x.at(3), -1);
        check.same("the first one given stays", x.at(5), 0);
        check.same("the second one given stays", x.at(0), 0);
        check.same("first seat", x.of(0, 6), 5);
        check.same("free seats", x.count(5), 4);
        x.shrink(0, 1);
        check.same("only the first one given is left", x.at(5), 0);
        check.same("free seats", x.count(5), 5);
        check.same("places", x.of(0, 2), 1);
    }

    private static void shrinkOfHeldAndWaiting() {
        FareDesk x = new FareDesk(1);
        x.hold(0, 5, 50);
        x.join(0, 4, 9);
        check.same("back of a waiting one", x.shrink(1, 2), 0);
        check.same("its places", x.of(1, 2), 2);
        check.same("its share is none", x.count(2), 5);
        x.shrink(1, 1);
        check.same("now it fits and is served", x.of(1, 0), 1);
        check.same("places", x.count(2), 6);
        x.join(0, 3, 9);
        check.same("back of a held one", x.shrink(0, 3), 0);
        check.same("the next is served", x.of(2, 0), 1);
        check.same("expiry stays", x.of(0, 5), 50);
        check.same("paid for what is left", x.confirm(0), 800);
    }

    private static void shrinkRefusals() {
        FareDesk x = confirmed(1, 0, 3);
        check.badArgument("none", () -> x.shrink(1, 1));
        check.badArgument("below none", () -> x.shrink(-1, 1));
        check.badArgument("n 0", () -> x.shrink(0, 0));
        check.badArgument("n -1", () -> x.shrink(0, -1));
        check.badArgument("n all", () -> x.shrink(0, 3));
        check.badArgument("n MIN", () -> x.shrink(0, Integer.MIN_VALUE));
        check.badArgument("n MAX", () -> x.shrink(0, Integer.MAX_VALUE));
        x.cancel(0);
        check.badState("cancelled", () -> x.shrink(0, 2));
        check.badArgument("a wrong n before the state", () -> x.shrink(0, 3));
        x.confirm(x.hold(0, 2, 1));
        x.close();
        check.badState("boarded", () -> x.shrink(1, 1));
    }

    private static void change() {
        FareDesk x = confirmed(1, 3, 4);
        x.limit(3, 2);
        x.change(0, 0);
        check.same("fare", x.of(0, 1), 0);
        check.same("paid stays", x.of(0, 4), 400);
        check.same("till stays", x.count(4), 400);
        check.same("room(3)", x.room(3), 2);
        check.same("room(0)", x.room(0), 2);
        x.hold(1, 1, 9);
        x.change(1, 3);
        check.same("fare of a held one", x.of(1, 1), 3);
        check.same("its expiry stays", x.of(1, 5), 9);
        check.same("room(3)", x.room(3), 1);
        check.same("it pays the new fare", x.confirm(1), 100);
    }

    private static void changeRefusals() {
        FareDesk x = confirmed(1, 0, 4);
        x.limit(3, 3);
        check.unsupported("room 3 for 4", () -> x.change(0, 3));
        check.same("fare stays", x.of(0, 1), 0);
        check.same("room stays", x.room(0), 2);
        x.limit(2, 4);
        x.change(0, 2);
        check.same("room 4 for 4", x.of(0, 1), 2);
        x.change(0, 2);
        x.change(0, 0);
        check.badArgument("no fare 4", () -> x.change(0, 4));
        check.badArgument("no fare -1", () -> x.change(0, -1));
        check.badArgument("none", () -> x.change(1, 0));
        check.badArgument("below none", () -> x.change(-1, 0));
        x.join(0, 3, 5);
        check.badState("waiting", () -> x.change(1, 1));
        x.cancel(1);
        check.badState("cancelled", () -> x.change(1, 3));
        check.badArgument("no fare before the state", () -> x.change(1, 4));
        x.limit(2, 3);
        x.limit(1, 3);
        x.limit(0, 3);
        check.unsupported("its own fare when the limit has gone below", () -> x.change(0, 0));
        x.close();
        check.badState("boarded", () -> x.change(0, 1));
    }

    private static void changeServes() {
        FareDesk x = new FareDesk(1);
        x.limit(3, 2);
        x.hold(3, 2, 9);
        x.join(3, 1, 4);
        x.change(0, 1);
        check.same("served", x.of(1, 0), 1);
        check.same("room(3)", x.room(3), 1);
    }

    private static void changedFareCountsForMoneyBack() {
        FareDesk x = confirmed(1, 0, 2);
        x.change(0, 2);
        check.same("2 of 4 of what fare 0 paid", x.cancel(0), 400);
        FareDesk y = confirmed(1, 3, 2);
        y.change(0, 0);
        check.same("all of what fare 3 paid", y.cancel(0), 200);
    }
}
