/** Promises 13 to 15 and 17: tick, close, of and count. */
public final class JourneyTest {
    private static final Check check = new Check();

    public static void main(String[] args) {
        tick();
        tickRefusals();
        tickServesInEachTick();
        allOfATickExpireBeforeServing();
        tickWhenClosed();
        closeEndsWhatIsNotConfirmed();
        boardingGoesByFareThenNumber();
        leftBehindFreesSeats();
        boardingGivesTheFirstFreeSeats();
        closeOfAnEmptyDesk();
        of();
        ofRefusals();
        count();
        countRefusals();
        check.end();
    }

    private static FareDesk wide(int rows) {
        FareDesk x = new FareDesk(rows);
        for (int fare = 0; fare < 4; fare++) {
            x.limit(fare, 99);
        }
        return x;
    }

    private static int party(FareDesk x, int fare, int places) {
        int booking = x.hold(fare, places, 50);
        x.confirm(booking);
        return booking;
    }

    private static void tick() {
        FareDesk x = new FareDesk(1);
        x.hold(0, 1, 3);
        x.hold(0, 2, 2);
        x.tick(1);
        check.same("time", x.count(0), 1);
        check.same("not yet", x.of(1, 0), 1);
        x.tick(1);
        check.same("its time has come", x.of(1, 0), 5);
        check.same("expires no more", x.of(1, 5), -1);
        check.same("not that one", x.of(0, 0), 1);
        check.same("places", x.count(2), 1);
        x.tick(100);
        check.same("time", x.count(0), 102);
        check.same("expired on the way", x.of(0, 0), 5);
        check.same("room", x.room(0), 6);
        check.badState("expired", () -> x.confirm(0));
    }

    private static void tickRefusals() {
        FareDesk x = new FareDesk(1);
        check.badArgument("tick(0)", () -> x.tick(0));
        check.badArgument("tick(-1)", () -> x.tick(-1));
        check.badArgument("tick(101)", () -> x.tick(101));
        check.badArgument("tick(MAX)", () -> x.tick(Integer.MAX_VALUE));
        check.same("time", x.count(0), 0);
    }

    private static void tickServesInEachTick() {
        FareDesk x = new FareDesk(1);
        x.hold(0, 6, 3);
        x.join(0, 6, 4);
        x.join(0, 6, 50);
        x.tick(10);
        check.same("served in tick 3, expired in tick 7", x.of(1, 0), 5);
        check.same("served in tick 7", x.of(2, 0), 1);
        check.same("expires", x.of(2, 5), 57);
        check.same("list", x.count(3), 0);
    }

    private static void allOfATickExpireBeforeServing() {
        FareDesk x = new FareDesk(1);
        x.hold(0, 3, 2);
        x.join(0, 6, 5);
        x.join(0, 3, 2);
        x.tick(1);
        check.same("the small one came first", x.of(2, 0), 1);
        x.tick(1);
        check.same("both expired, then the big one is served", x.of(1, 0), 1);
        check.same("expires", x.of(1, 5), 7);
    }

    private static void tickWhenClosed() {
        FareDesk x = new FareDesk(1);
        party(x, 0, 1);
        x.close();
        x.tick(100);
        check.same("time", x.count(0), 100);
        check.same("still boarded", x.of(0, 0), 6);
    }

    private static void closeEndsWhatIsNotConfirmed() {
        FareDesk x = new FareDesk(1);
        x.hold(0, 5, 50);
        party(x, 3, 1);
        x.join(0, 5, 50);
        check.same("boarded", x.close(), 1);
        check.same("a held one has expired", x.of(0, 0), 5);
        check.same("a confirmed one has boarded", x.of(1, 0), 6);
        check.same("a waiting one is cancelled", x.of(2, 0), 4);
        check.same("list", x.count(3), 0);
        check.same("places", x.count(2), 1);
        check.same("till", x.count(4), 100);
        check.same("closed", x.count(6), 1);
        check.same("room", x.room(0), 5);
        check.badState("close again", () -> x.close());
        check.badState("confirm", () -> x.confirm(0));
    }

    private static void boardingGoesByFareThenNumber() {
        FareDesk x = wide(1);
        party(x, 3, 1);
        party(x, 1, 2);
        party(x, 0, 3);
        party(x, 1, 2);
        party(x, 2, 1);
        check.same("boarded", x.close(), 6);
        int[] states = {7, 6, 6, 7, 6};
        for (int i = 0; i < states.length; i++) {
            check.same("state of " + i, x.of(i, 0), states[i]);
        }
        check.same("fare 0 sits first", x.of(2, 6), 0);
        check.same("then fare 1", x.of(1, 6), 3);
        check.same("then fare 2", x.of(4, 6), 5);
        check.same("all of fare 1 goes back, all of fare 3 too", x.count(4), 1200 + 600 + 200);
        check.same("nothing is paid of one left behind", x.of(3, 4), 0);
        check.same("what is paid of one that boarded", x.of(1, 4), 600);
        check.same("places", x.count(2), 6);
    }

    private static void leftBehindFreesSeats() {
        FareDesk x = wide(1);
        int big = party(x, 0, 5);
        x.seat(big, 4);
        int sitting = party(x, 3, 3);
        x.together(sitting);
        int late = party(x, 1, 3);
        check.same("boarded", x.close(), 6);
        check.same("too few for the big one", x.of(big, 0), 7);
        check.same("it has no seat", x.of(big, 3), 0);
        check.same("it has no first seat", x.of(big, 6), -1);
        check.same("its seat went to the late one", x.at(4), late);
        check.same("the late one boarded", x.of(late, 0), 6);
        check.same("the sitting one too", x.of(sitting, 0), 6);
        check.same("its seats", x.of(sitting, 6), 0);
        check.same("till", x.count(4), 900 + 300);
    }

    private static void boardingGivesTheFirstFreeSeats() {
        FareDesk x = wide(2);
        int a = party(x, 0, 3);
        int b = party(x, 2, 4);
        x.seat(b, 1);
        x.seat(b, 10);
        check.same("boarded", x.close(), 7);
        int[] due = {a, b, a, a, b, b, -1, -1, -1, -1, b, -1};
        for (int seat = 0; seat < due.length; seat++) {
            check.same("at(" + seat + ")", x.at(seat), due[seat]);
        }
        check.same("first seat stays", x.of(b, 6), 1);
        check.same("seats", x.of(b, 3), 4);
        check.same("free seats", x.count(5), 5);
    }

    private static void closeOfAnEmptyDesk() {
        FareDesk x = new FareDesk(1);
        check.same("boarded", x.close(), 0);
        check.same("closed", x.count(6), 1);
    }

    private static void of() {
        FareDesk x = new FareDesk(1);
        x.tick(4);
        x.hold(2, 3, 6);
        int[] held = {1, 2, 3, 0, 0, 10, -1};
        ofAll(x, held);
        x.confirm(0);
        x.seat(0, 4);
        x.seat(0, 2);
        int[] sitting = {2, 2, 3, 2, 600, -1, 4};
        ofAll(x, sitting);
        x.close();
        int[] boarded = {6, 2, 3, 3, 600, -1, 4};
        ofAll(x, boarded);
    }

    private static void ofAll(FareDesk x, int[] due) {
        for (int what = 0; what < due.length; what++) {
            check.same("of(0, " + what + ")", x.of(0, what), due[what]);
        }
    }

    private static void ofRefusals() {
        FareDesk x = new FareDesk(1);
        check.badArgument("of(0, 0) of no booking", () -> x.of(0, 0));
        x.hold(0, 1, 1);
        check.badArgument("of(0, -1)", () -> x.of(0, -1));
        check.badArgument("of(0, 7)", () -> x.of(0, 7));
        check.badArgument("of(-1, 0)", () -> x.of(-1, 0));
        check.badArgument("of(1, 0)", () -> x.of(1, 0));
        check.badArgument("of(60, 0)", () -> x.of(60, 0));
        check.badArgument("of(MIN, 0)", () -> x.of(Integer.MIN_VALUE, 0));
    }

    private static void count() {
        FareDesk x = new FareDesk(2);
        x.tick(9);
        x.hold(0, 2, 5);
        party(x, 1, 3);
        x.together(1);
        x.join(0, 6, 5);
        x.join(0, 6, 5);
        x.join(0, 6, 5);
        int[] due = {9, 5, 11, 2, 900, 9, 0};
        countAll(x, due);
        x.close();
        int[] closed = {9, 5, 3, 0, 900, 9, 1};
        countAll(x, closed);
        FareDesk y = new FareDesk(1);
        y.limit(3, 0);
        y.join(3, 1, 5);
        check.same("the first booking waits", y.count(3), 1);
    }

    private static void countAll(FareDesk x, int[] due) {
        for (int which = 0; which < due.length; which++) {
            check.same("count(" + which + ")", x.count(which), due[which]);
        }
    }

    private static void countRefusals() {
        FareDesk x = new FareDesk(1);
        check.badArgument("count(-1)", () -> x.count(-1));
        check.badArgument("count(7)", () -> x.count(7));
        check.badArgument("count(MAX)", () -> x.count(Integer.MAX_VALUE));
    }
}
