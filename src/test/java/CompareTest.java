import java.util.Random;

/** Long runs of calls on FareDesk and on PlainDesk, which must answer each of them alike. */
public final class CompareTest {
    private static final int RUNS = 3000;
    /** The document promises nothing of a call after these. */
    private static final int CALLS = 512;
    private static final int SEATS_LOOKED_AT = 62;

    private interface Answer {
        int get();
    }

    private final Check check = new Check();
    private final Random random = new Random(20261115);
    private FareDesk desk;
    private PlainDesk plain;
    private boolean alike;
    private int calls;
    private StringBuilder told;
    private final int[] answeredWell = new int[16];

    public static void main(String[] args) {
        CompareTest test = new CompareTest();
        for (int run = 0; run < RUNS; run++) {
            test.run(run);
        }
        test.togetherOnEveryPatternOfTwoRows();
        for (int kind = 0; kind < 16; kind++) {
            test.check.same("calls of kind " + kind + " that went well, at least 100",
                Math.min(100, test.answeredWell[kind]), 100);
        }
        test.check.end();
    }

    private void run(int run) {
        int rows = random.nextInt(5) == 0 ? random.nextInt(14) - 1 : 1 + random.nextInt(3);
        begin(rows, "run " + run + " of " + rows + " rows:");
        // Some runs close late or never, so that long lives are seen too.
        int closeFrom = 50 + random.nextInt(CALLS);
        int lookFrom = 1 + random.nextInt(CALLS);
        while (calls < lookFrom && alike) {
            call(calls >= closeFrom);
        }
        lookAtAll();
        check.holds(told.toString(), alike);
    }

    private void begin(int rows, String title) {
        desk = new FareDesk(rows);
        plain = new PlainDesk(rows);
        alike = true;
        calls = 0;
        told = new StringBuilder(title);
    }

    /** Every way in which two rows may be taken, and every number of seats asked for then. */
    private void togetherOnEveryPatternOfTwoRows() {
        for (int pattern = 0; pattern < 1 << 12; pattern++) {
            for (int places = 1; places <= 6; places++) {
                together(pattern, places);
                check.holds(told.toString(), alike);
            }
        }
    }

    private void together(int pattern, int places) {
        begin(2, "seats taken by the bits of " + pattern + ", " + places + " places:");
        same(0, "limit(0, 99)", () -> limit(desk, 0, 99), () -> limit(plain, 0, 99));
        newBooking(true, 0, places, 50);
        same(5, "confirm(0)", () -> desk.confirm(0), () -> plain.confirm(0));
        for (int seat = 0; seat < 12; seat++) {
            if ((pattern >> seat & 1) == 1) {
                takeSeat(seat);
            }
        }
        same(10, "together(0)", () -> desk.together(0), () -> plain.together(0));
        lookAtAll();
    }

    private void takeSeat(int seat) {
        newBooking(true, 0, 1, 50);
        int b = plain.count(1) - 1;
        same(5, "confirm(" + b + ")", () -> desk.confirm(b), () -> plain.confirm(b));
        same(9, "seat(" + b + ", " + seat + ")", () -> desk.seat(b, seat), () -> plain.seat(b, seat));
    }

    private void call(boolean mayClose) {
        int kind = random.nextInt(100);
        if (kind < 9) {
            limitOrPrice(kind);
        } else if (kind < 35) {
            newBooking(kind % 2 == 0, fare(), around(1, 6), around(1, 50));
        } else if (kind < 85) {
            ofBooking(kind, booking());
        } else if (kind < 95) {
            int n = random.nextInt(8) == 0 ? around(1, 100) : 1 + random.nextInt(4);
            same(12, "tick(" + n + ")", () -> tick(desk, n), () -> tick(plain, n));
        } else if (kind < 96 && mayClose) {
            same(13, "close()", () -> desk.close(), () -> plain.close());
        } else {
            questions();
        }
    }

    private void limitOrPrice(int kind) {
        int fare = fare();
        if (kind < 7) {
            int limit = random.nextInt(4) == 0 ? around(0, 99) : random.nextInt(25);
            same(0, "limit(" + fare + ", " + limit + ")",
                () -> limit(desk, fare, limit), () -> limit(plain, fare, limit));
        } else {
            int price = around(0, 9999);
            same(1, "price(" + fare + ", " + price + ")",
                () -> price(desk, fare, price), () -> price(plain, fare, price));
        }
    }

    private void newBooking(boolean hold, int fare, int places, int ticks) {
        String values = "(" + fare + ", " + places + ", " + ticks + ")";
        if (hold) {
            same(3, "hold" + values, () -> desk.hold(fare, places, ticks), () -> plain.hold(fare, places, ticks));
        } else {
            same(4, "join" + values, () -> desk.join(fare, places, ticks), () -> plain.join(fare, places, ticks));
        }
    }

    private void ofBooking(int kind, int b) {
        if (kind < 50) {
            same(5, "confirm(" + b + ")", () -> desk.confirm(b), () -> plain.confirm(b));
        } else if (kind < 54) {
            same(6, "cancel(" + b + ")", () -> desk.cancel(b), () -> plain.cancel(b));
        } else if (kind < 60) {
            int n = around(1, 4);
            same(7, "shrink(" + b + ", " + n + ")", () -> desk.shrink(b, n), () -> plain.shrink(b, n));
        } else if (kind < 67) {
            int fare = fare();
            same(8, "change(" + b + ", " + fare + ")", () -> change(desk, b, fare), () -> change(plain, b, fare));
        } else if (kind < 77) {
            int seat = random.nextInt(3) == 0 ? around(0, 59) : around(0, 11);
            same(9, "seat(" + b + ", " + seat + ")", () -> desk.seat(b, seat), () -> plain.seat(b, seat));
        } else {
            same(10, "together(" + b + ")", () -> desk.together(b), () -> plain.together(b));
        }
    }

    private void questions() {
        int fare = fare();
        int b = booking();
        int what = around(0, 6);
        int seat = around(0, 59);
        same(2, "room(" + fare + ")", () -> desk.room(fare), () -> plain.room(fare));
        same(11, "of(" + b + ", " + what + ")", () -> desk.of(b, what), () -> plain.of(b, what));
        same(14, "at(" + seat + ")", () -> desk.at(seat), () -> plain.at(seat));
        same(15, "count(" + what + ")", () -> desk.count(what), () -> plain.count(what));
    }

    /** As much as may still be asked, the newest bookings before older ones. */
    private void lookAtAll() {
        for (int i = 0; i <= 6; i++) {
            int which = i;
            same(15, "count(" + which + ")", () -> desk.count(which), () -> plain.count(which));
        }
        for (int i = 0; i < 4; i++) {
            int fare = i;
            same(2, "room(" + fare + ")", () -> desk.room(fare), () -> plain.room(fare));
        }
        for (int b = plain.count(1) - 1; b >= 0; b--) {
            lookAtBooking(b);
        }
        for (int i = 0; i < SEATS_LOOKED_AT; i++) {
            int seat = i - 1;
            same(14, "at(" + seat + ")", () -> desk.at(seat), () -> plain.at(seat));
        }
    }

    private void lookAtBooking(int b) {
        for (int i = 0; i <= 6; i++) {
            int what = i;
            same(11, "of(" + b + ", " + what + ")", () -> desk.of(b, what), () -> plain.of(b, what));
        }
    }

    private void same(int kind, String call, Answer got, Answer due) {
        if (calls == CALLS) {
            return;
        }
        calls++;
        String answer = answerOf(due);
        String gotten = answerOf(got);
        told.append(' ').append(call).append('=').append(answer);
        if (!gotten.equals(answer)) {
            alike = false;
            told.append(" [answered ").append(gotten).append(']');
        }
        if (Character.isDigit(answer.charAt(answer.length() - 1))) {
            answeredWell[kind]++;
        }
    }

    private static String answerOf(Answer answer) {
        try {
            return String.valueOf(answer.get());
        } catch (RuntimeException e) {
            return e.getClass().getSimpleName();
        }
    }

    private int fare() {
        return around(0, 3);
    }

    private int booking() {
        int made = plain.count(1);
        // The newest ones are mostly those that something can still be done with.
        int newest = Math.max(0, made - 8);
        return random.nextInt(3) == 0 ? around(0, made - 1) : newest + random.nextInt(8);
    }

    /** Mostly from least to most, at times just outside or far outside. */
    private int around(int least, int most) {
        switch (random.nextInt(40)) {
            case 0:
                return least - 1;
            case 1:
                return most + 1;
            case 2:
                return random.nextInt();
            default:
                return least + random.nextInt(Math.max(1, most - least + 1));
        }
    }

    private static int tick(FareDesk x, int n) {
        x.tick(n);
        return 0;
    }

    private static int tick(PlainDesk x, int n) {
        x.tick(n);
        return 0;
    }

    private static int limit(FareDesk x, int fare, int limit) {
        x.limit(fare, limit);
        return 0;
    }

    private static int limit(PlainDesk x, int fare, int limit) {
        x.limit(fare, limit);
        return 0;
    }

    private static int price(FareDesk x, int fare, int price) {
        x.price(fare, price);
        return 0;
    }

    private static int price(PlainDesk x, int fare, int price) {
        x.price(fare, price);
        return 0;
    }

    private static int change(FareDesk x, int booking, int fare) {
        x.change(booking, fare);
        return 0;
    }

    private static int change(PlainDesk x, int booking, int fare) {
        x.change(booking, fare);
        return 0;
    }
}
