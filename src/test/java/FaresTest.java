/** Promises 1 to 4: a new object, limit, price and room. */
public final class FaresTest {
    private static final Check check = new Check();

    public static void main(String[] args) {
        newObject();
        rowsAreKeptInBounds();
        limitsAreNested();
        limitEdges();
        limitServes();
        limitWhenClosed();
        prices();
        roomIsTheLeast();
        roomMayBeBelowZero();
        roomOfNoFare();
        check.end();
    }

    private static void newObject() {
        FareDesk x = new FareDesk(2);
        for (int which = 0; which <= 6; which++) {
            check.same("count(" + which + ") of a new desk", x.count(which), which == 5 ? 12 : 0);
        }
        for (int fare = 0; fare < 4; fare++) {
            check.same("room less what is held before", x.room(fare), 12 - fare);
            int booking = x.hold(fare, 1, 1);
            check.same("price of a new desk", x.confirm(booking), 400 - 100 * fare);
        }
        check.same("at(0) of a new desk", x.at(0), -1);
        check.badArgument("of(4, 0)", () -> x.of(4, 0));
    }

    private static void rowsAreKeptInBounds() {
        int[] rows = {Integer.MIN_VALUE, -1, 0, 1, 9, 10, 11, Integer.MAX_VALUE};
        int[] seats = {6, 6, 6, 6, 54, 60, 60, 60};
        for (int i = 0; i < rows.length; i++) {
            FareDesk x = new FareDesk(rows[i]);
            check.same("free seats of rows " + rows[i], x.count(5), seats[i]);
            check.same("room of rows " + rows[i], x.room(3), seats[i]);
        }
    }

    private static void limitsAreNested() {
        FareDesk x = new FareDesk(1);
        check.badArgument("limit(1, 7) above fare 0", () -> x.limit(1, 7));
        check.badArgument("limit(0, 5) below fare 1", () -> x.limit(0, 5));
        check.badArgument("limit(2, 5) below fare 3", () -> x.limit(2, 5));
        x.limit(0, 20);
        x.limit(1, 20);
        check.same("room(1) above the capacity", x.room(1), 20);
        check.same("room(2) stays", x.room(2), 6);
        x.limit(3, 4);
        x.limit(2, 4);
        check.badArgument("limit(3, 5) above fare 2", () -> x.limit(3, 5));
        check.same("room(3)", x.room(3), 4);
    }

    private static void limitEdges() {
        FareDesk x = new FareDesk(1);
        x.limit(0, 99);
        check.same("room(0) of 99", x.room(0), 99);
        x.limit(3, 0);
        check.same("room(3) of 0", x.room(3), 0);
        check.badArgument("limit(0, 100)", () -> x.limit(0, 100));
        check.badArgument("limit(3, -1)", () -> x.limit(3, -1));
        check.badArgument("limit(4, 0)", () -> x.limit(4, 0));
        check.badArgument("limit(-1, 6)", () -> x.limit(-1, 6));
        check.badArgument("limit(MIN, 6)", () -> x.limit(Integer.MIN_VALUE, 6));
        check.badArgument("limit(0, MAX)", () -> x.limit(0, Integer.MAX_VALUE));
        check.same("room(0) after refusals", x.room(0), 99);
    }

    private static void limitServes() {
        FareDesk x = new FareDesk(1);
        x.hold(0, 6, 50);
        x.join(0, 2, 5);
        x.join(0, 1, 5);
        x.limit(0, 7);
        check.same("state of the one that is too big", x.of(1, 0), 3);
        check.same("state of the one that fits", x.of(2, 0), 1);
        x.limit(0, 9);
        check.same("state once there is room", x.of(1, 0), 1);
    }

    private static void limitWhenClosed() {
        FareDesk x = new FareDesk(1);
        x.close();
        check.badState("limit(0, 7) when closed", () -> x.limit(0, 7));
        check.badArgument("limit(0, 100) when closed", () -> x.limit(0, 100));
        check.badArgument("limit(4, 1) when closed", () -> x.limit(4, 1));
        check.same("room(0) when closed", x.room(0), 6);
    }

    private static void prices() {
        FareDesk x = new FareDesk(1);
        x.hold(0, 2, 5);
        x.hold(0, 2, 5);
        x.confirm(0);
        x.price(0, 9999);
        check.same("paid before stays", x.of(0, 4), 800);
        check.same("paid at the new price", x.confirm(1), 19998);
        check.same("what goes back of the old price", x.cancel(0), 800);
        x.price(3, 0);
        check.same("paid at price 0", x.confirm(x.hold(3, 1, 1)), 0);
        check.badArgument("price(0, 10000)", () -> x.price(0, 10000));
        check.badArgument("price(0, -1)", () -> x.price(0, -1));
        check.badArgument("price(4, 1)", () -> x.price(4, 1));
        check.badArgument("price(-1, 1)", () -> x.price(-1, 1));
        x.close();
        x.price(1, 5);
    }

    private static void roomIsTheLeast() {
        FareDesk x = new FareDesk(2);
        x.limit(3, 3);
        x.limit(2, 6);
        x.limit(1, 9);
        x.hold(1, 5, 9);
        check.same("room(0): 12 - 5", x.room(0), 7);
        check.same("room(1): 9 - 5", x.room(1), 4);
        check.same("room(2): held down by fare 1", x.room(2), 4);
        check.same("room(3): its own limit", x.room(3), 3);
        x.hold(3, 2, 9);
        x.join(0, 6, 9);
        check.same("room(0): one that waits has no share", x.room(0), 5);
        check.same("room(1): 9 - 7", x.room(1), 2);
        check.same("room(2): still fare 1", x.room(2), 2);
        check.same("room(3): 3 - 2", x.room(3), 1);
    }

    private static void roomMayBeBelowZero() {
        FareDesk x = new FareDesk(1);
        x.confirm(x.hold(3, 4, 9));
        x.limit(3, 1);
        check.same("room(3)", x.room(3), -3);
        check.same("room(2)", x.room(2), 2);
        x.close();
        check.same("room(3) when boarded", x.room(3), -3);
    }

    private static void roomOfNoFare() {
        FareDesk x = new FareDesk(1);
        check.badArgument("room(-1)", () -> x.room(-1));
        check.badArgument("room(4)", () -> x.room(4));
        check.badArgument("room(MAX)", () -> x.room(Integer.MAX_VALUE));
    }
}
