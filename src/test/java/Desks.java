/** Desks in the states that tests begin with. No test makes more than 512 calls on one of them. */
final class Desks {
    static final int HELD = 1;
    static final int CONFIRMED = 2;
    static final int WAITING = 3;
    static final int CANCELLED = 4;
    static final int EXPIRED = 5;
    static final int BOARDED = 6;
    static final int LEFT_BEHIND = 7;

    private static final int MOST_TOLD = 8;

    /** A desk that sells more places than it has seats. */
    static FareDesk wide(int rows) {
        FareDesk x = new FareDesk(rows);
        for (int fare = 0; fare < 4; fare++) {
            x.limit(fare, 99);
        }
        return x;
    }

    static FareDesk limits(int rows, int of0, int of1, int of2, int of3) {
        FareDesk x = wide(rows);
        x.limit(3, of3);
        x.limit(2, of2);
        x.limit(1, of1);
        x.limit(0, of0);
        return x;
    }

    /** A confirmed booking. */
    static int party(FareDesk x, int fare, int places) {
        int booking = x.hold(fare, places, 50);
        x.confirm(booking);
        return booking;
    }

    /** Takes just these seats, each for a party of one. */
    static FareDesk take(FareDesk x, int... seats) {
        for (int seat : seats) {
            x.seat(party(x, 0, 1), seat);
        }
        return x;
    }

    static FareDesk confirmed(int rows, int fare, int places) {
        FareDesk x = new FareDesk(rows);
        party(x, fare, places);
        return x;
    }

    static FareDesk closed() {
        FareDesk x = new FareDesk(1);
        x.close();
        return x;
    }

    /** Booking 0, of fare 1 and 3 places, is in this state. */
    static FareDesk with(int state) {
        if (state == WAITING) {
            FareDesk x = limits(1, 6, 2, 2, 2);
            x.join(1, 3, 50);
            return x;
        }
        FareDesk x = wide(1);
        x.hold(1, 3, state == EXPIRED ? 1 : 50);
        if (state == EXPIRED) {
            x.tick(1);
        } else if (state == CANCELLED) {
            x.cancel(0);
        } else if (state != HELD) {
            x.confirm(0);
        }
        if (state == LEFT_BEHIND) {
            party(x, 0, 6);
        }
        if (state == BOARDED || state == LEFT_BEHIND) {
            x.close();
        }
        return x;
    }

    /** A desk with this many bookings, of which each has one place and the first waits. */
    static FareDesk crowded(int bookings) {
        FareDesk x = limits(1, 99, 0, 0, 0);
        x.join(3, 1, 50);
        for (int i = 1; i < bookings; i++) {
            x.hold(0, 1, 50);
        }
        return x;
    }

    /**
     * All that a desk answers, and then, for what no answer tells at once (limits, prices, the
     * ticks that waiting ones asked for), what it does as all its bookings are cancelled.
     */
    static String tell(FareDesk x) {
        StringBuilder told = new StringBuilder();
        tellAnswers(x, told);
        int made = x.count(1);
        for (int b = 0; b < made; b++) {
            int booking = b;
            told.append(" expires ").append(x.of(b, 5));
            tellAnswer(told, "cancel", () -> x.cancel(booking));
        }
        for (int fare = 0; fare < 4; fare++) {
            int one = fare;
            told.append(" room ").append(x.room(fare));
            tellAnswer(told, "price", () -> x.confirm(x.hold(one, 1, 1)));
        }
        return told.toString();
    }

    private static void tellAnswers(FareDesk x, StringBuilder told) {
        for (int which = 0; which <= 6; which++) {
            told.append(" count ").append(x.count(which));
        }
        for (int fare = 0; fare < 4; fare++) {
            told.append(" room ").append(x.room(fare));
        }
        int made = x.count(1);
        for (int b = Math.max(0, made - MOST_TOLD); b < made; b++) {
            told.append(" of ").append(b);
            for (int what = 0; what <= 6; what++) {
                told.append(' ').append(x.of(b, what));
            }
        }
        told.append(" at");
        for (int seat = 0; seat < 60; seat++) {
            told.append(' ').append(x.at(seat));
        }
    }

    private interface Answer {
        int get();
    }

    private static void tellAnswer(StringBuilder told, String name, Answer answer) {
        told.append(' ').append(name).append(' ');
        try {
            told.append(answer.get());
        } catch (RuntimeException e) {
            told.append(e.getClass().getSimpleName());
        }
    }

    private Desks() {
    }
}
