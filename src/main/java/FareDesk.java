import java.util.Arrays;

/** The desk of one journey: it sells places by fares, keeps a waiting list, gives seats and boards. */
public final class FareDesk {
    private static final int MOST_ROWS = 10;
    private static final int MOST_BOOKINGS = 60;
    private static final int MOST_PLACES = 6;
    private static final int MOST_TICKS_ASKED = 50;
    private static final int MOST_TICKS_AT_ONCE = 100;
    private static final int MOST_LIMIT = 99;
    private static final int MOST_PRICE = 9999;

    private static final int FARES = 4;
    private static final int SIDE_SEATS = 3;
    private static final int ROW_SEATS = 6;
    private static final int NONE = -1;

    private static final int HELD = 1;
    private static final int CONFIRMED = 2;
    private static final int WAITING = 3;
    private static final int CANCELLED = 4;
    private static final int EXPIRED = 5;
    private static final int BOARDED = 6;
    private static final int LEFT_BEHIND = 7;

    private final Fares fares;
    private final Cabin cabin;
    private final Booking[] bookings = new Booking[MOST_BOOKINGS];
    private int made;
    private int time;
    private int till;
    private boolean closed;

    public FareDesk(int rows) {
        int seats = ROW_SEATS * Math.max(1, Math.min(MOST_ROWS, rows));
        fares = new Fares(seats);
        cabin = new Cabin(seats);
        // All are made here, so that no element is ever null.
        for (int i = 0; i < MOST_BOOKINGS; i++) {
            bookings[i] = new Booking(i);
        }
    }

    public void limit(int fare, int limit) throws IllegalArgumentException, IllegalStateException {
        requireFare(fare);
        if (!fares.mayLimit(fare, limit)) {
            throw new IllegalArgumentException("no such limit for this fare");
        }
        requireOpen();
        fares.limits[fare] = limit;
        serveWaiting();
    }

    public void price(int fare, int price) throws IllegalArgumentException {
        requireFare(fare);
        if (price < 0 || price > MOST_PRICE) {
            throw new IllegalArgumentException("no such price");
        }
        fares.prices[fare] = price;
    }

    public int room(int fare) throws IllegalArgumentException {
        requireFare(fare);
        return fares.roomIn(fare);
    }

    public int hold(int fare, int places, int ticks)
            throws IllegalArgumentException, IllegalStateException, UnsupportedOperationException {
        requireNewBooking(fare, places, ticks);
        requireRoom(fare, places);
        Booking b = newBooking(fare, places, ticks);
        startHolding(b);
        return b.number;
    }

    public int join(int fare, int places, int ticks) throws IllegalArgumentException, IllegalStateException {
        requireNewBooking(fare, places, ticks);
        Booking b = newBooking(fare, places, ticks);
        b.state = WAITING;
        serveWaiting();
        return b.number;
    }

    public int confirm(int booking) throws IllegalArgumentException, IllegalStateException {
        Booking b = find(booking);
        if (b.state != HELD) {
            throw new IllegalStateException("not held");
        }
        b.state = CONFIRMED;
        b.paid = b.places * fares.prices[b.fare];
        till += b.paid;
        return b.paid;
    }

    public int cancel(int booking) throws IllegalArgumentException, IllegalStateException {
        Booking b = find(booking);
        requireCountingOrWaiting(b);
        int back = payBack(b, b.places);
        giveUp(b, CANCELLED);
        serveWaiting();
        return back;
    }

    public int shrink(int booking, int n) throws IllegalArgumentException, IllegalStateException {
        Booking b = find(booking);
        if (n < 1 || n >= b.places) {
            throw new IllegalArgumentException("not so many places can go");
        }
        requireCountingOrWaiting(b);
        int back = payBack(b, n);
        if (b.isCounting()) {
            fares.shares[b.fare] -= n;
        }
        b.places -= n;
        cabin.takeAllBut(b, b.places);
        serveWaiting();
        return back;
    }

    public void change(int booking, int fare)
            throws IllegalArgumentException, IllegalStateException, UnsupportedOperationException {
        Booking b = find(booking);
        requireFare(fare);
        if (!b.isCounting()) {
            throw new IllegalStateException("neither held nor confirmed");
        }
        if (fares.roomWithout(b, fare) < b.places) {
            throw new UnsupportedOperationException("no room in that fare");
        }
        fares.shares[b.fare] -= b.places;
        fares.shares[fare] += b.places;
        b.fare = fare;
        serveWaiting();
    }

    public int seat(int booking, int seat)
            throws IllegalArgumentException, IllegalStateException, UnsupportedOperationException {
        Booking b = find(booking);
        if (!cabin.hasSeat(seat)) {
            throw new IllegalArgumentException("no such seat");
        }
        requireSeatsMissing(b);
        if (!cabin.isFree(seat)) {
            throw new UnsupportedOperationException("the seat is taken");
        }
        cabin.give(b, seat);
        return b.seated;
    }

    public int together(int booking)
            throws IllegalArgumentException, IllegalStateException, UnsupportedOperationException {
        Booking b = find(booking);
        requireSeatsMissing(b);
        if (cabin.free < b.seatsMissing()) {
            throw new UnsupportedOperationException("too few seats are free");
        }
        int first = cabin.bestStart(b.seatsMissing());
        cabin.giveMissing(b, first);
        return first;
    }

    public void tick(int n) throws IllegalArgumentException {
        if (n < 1 || n > MOST_TICKS_AT_ONCE) {
            throw new IllegalArgumentException("not so many ticks");
        }
        for (int i = 0; i < n; i++) {
            time++;
            if (expireDue()) {
                serveWaiting();
            }
        }
    }

    public int close() throws IllegalStateException {
        requireOpen();
        closed = true;
        endUnconfirmed();
        int boarded = 0;
        for (int fare = 0; fare < FARES; fare++) {
            boarded += boardFare(fare);
        }
        return boarded;
    }

    public int of(int booking, int what) throws IllegalArgumentException {
        Booking b = find(booking);
        switch (what) {
            case 0:
                return b.state;
            case 1:
                return b.fare;
            case 2:
                return b.places;
            case 3:
                return b.seated;
            case 4:
                return b.paid;
            case 5:
                return b.state == HELD ? b.expiry : NONE;
            case 6:
                return b.seated > 0 ? b.seats[0] : NONE;
            default:
                throw new IllegalArgumentException("nothing of a booking has this number");
        }
    }

    public int at(int seat) {
        return cabin.hasSeat(seat) ? cabin.holders[seat] : NONE;
    }

    public int count(int which) throws IllegalArgumentException {
        switch (which) {
            case 0:
                return time;
            case 1:
                return made;
            case 2:
                return fares.shareFrom(0);
            case 3:
                return waitingBookings();
            case 4:
                return till;
            case 5:
                return cabin.free;
            case 6:
                return closed ? 1 : 0;
            default:
                throw new IllegalArgumentException("nothing is counted under this number");
        }
    }

    private void requireFare(int fare) {
        if (fare < 0 || fare >= FARES) {
            throw new IllegalArgumentException("no such fare");
        }
    }

    private void requireOpen() {
        if (closed) {
            throw new IllegalStateException("the journey is closed");
        }
    }

    private void requireNewBooking(int fare, int places, int ticks) {
        requireFare(fare);
        if (places < 1 || places > MOST_PLACES) {
            throw new IllegalArgumentException("no booking has so many places");
        }
        if (ticks < 1 || ticks > MOST_TICKS_ASKED) {
            throw new IllegalArgumentException("none is held for so many ticks");
        }
        requireOpen();
        if (made >= MOST_BOOKINGS) {
            throw new IllegalStateException("no more bookings");
        }
    }

    private void requireRoom(int fare, int places) {
        if (fares.roomIn(fare) < places) {
            throw new UnsupportedOperationException("no room in this fare");
        }
    }

    private void requireCountingOrWaiting(Booking b) {
        if (!b.isCounting() && b.state != WAITING) {
            throw new IllegalStateException("neither held, confirmed nor waiting");
        }
    }

    private void requireSeatsMissing(Booking b) {
        if (b.state != CONFIRMED) {
            throw new IllegalStateException("not confirmed");
        }
        if (b.seatsMissing() <= 0) {
            throw new IllegalStateException("each place has a seat");
        }
    }

    private Booking find(int number) {
        if (number < 0 || number >= made) {
            throw new IllegalArgumentException("no such booking");
        }
        return bookings[number];
    }

    private Booking newBooking(int fare, int places, int ticks) {
        Booking b = bookings[made];
        made++;
        b.fare = fare;
        b.places = places;
        b.ticks = ticks;
        return b;
    }

    private void startHolding(Booking b) {
        b.state = HELD;
        b.expiry = time + b.ticks;
        fares.shares[b.fare] += b.places;
    }

    /**
     * Bookings come on the list once, when they are made, so its order is that of the numbers. One
     * pass is enough: serving only takes room away, so one that was passed over does not fit later.
     */
    private void serveWaiting() {
        for (int i = 0; i < made; i++) {
            Booking b = bookings[i];
            if (b.state == WAITING && fares.roomIn(b.fare) >= b.places) {
                startHolding(b);
            }
        }
    }

    private int waitingBookings() {
        int waiting = 0;
        for (int i = 0; i < made; i++) {
            if (bookings[i].state == WAITING) {
                waiting++;
            }
        }
        return waiting;
    }

    /** Pays back for so many places; one that is not confirmed has paid nothing and gets nothing. */
    private int payBack(Booking b, int places) {
        int part = b.paidFor(places);
        int back = fares.partBack(b.fare, part);
        b.paid -= part;
        till -= back;
        return back;
    }

    private void giveUp(Booking b, int state) {
        if (b.isCounting()) {
            fares.shares[b.fare] -= b.places;
        }
        cabin.takeAllBut(b, 0);
        b.state = state;
    }

    private boolean expireDue() {
        boolean some = false;
        for (int i = 0; i < made; i++) {
            Booking b = bookings[i];
            if (b.state == HELD && b.expiry <= time) {
                giveUp(b, EXPIRED);
                some = true;
            }
        }
        return some;
    }

    private void endUnconfirmed() {
        for (int i = 0; i < made; i++) {
            Booking b = bookings[i];
            if (b.state == HELD) {
                giveUp(b, EXPIRED);
            } else if (b.state == WAITING) {
                giveUp(b, CANCELLED);
            }
        }
    }

    private int boardFare(int fare) {
        int boarded = 0;
        for (int i = 0; i < made; i++) {
            Booking b = bookings[i];
            if (b.state == CONFIRMED && b.fare == fare) {
                boarded += board(b);
            }
        }
        return boarded;
    }

    private int board(Booking b) {
        if (cabin.free < b.seatsMissing()) {
            leaveBehind(b);
            return 0;
        }
        cabin.giveMissing(b, 0);
        b.state = BOARDED;
        return b.places;
    }

    private void leaveBehind(Booking b) {
        till -= b.paid;
        b.paid = 0;
        giveUp(b, LEFT_BEHIND);
    }

    private static final class Booking {
        final int number;
        final int[] seats = new int[MOST_PLACES];
        int seated;
        int state;
        int fare;
        int places;
        int paid;
        int ticks;
        int expiry;

        Booking(int number) {
            this.number = number;
        }

        boolean isCounting() {
            return state == HELD || state == CONFIRMED;
        }

        int seatsMissing() {
            return places - seated;
        }

        int paidFor(int somePlaces) {
            return places > 0 ? paid * somePlaces / places : 0;
        }
    }

    private static final class Fares {
        final int[] limits = new int[FARES];
        final int[] prices = {400, 300, 200, 100};
        /** Of each fare the places that are held, confirmed or boarded. */
        final int[] shares = new int[FARES];

        Fares(int capacity) {
            Arrays.fill(limits, capacity);
        }

        boolean mayLimit(int fare, int limit) {
            if (limit < 0 || limit > MOST_LIMIT) {
                return false;
            }
            if (fare > 0 && limit > limits[fare - 1]) {
                return false;
            }
            return fare == FARES - 1 || limit >= limits[fare + 1];
        }

        int shareFrom(int fare) {
            int places = 0;
            for (int k = fare; k < FARES; k++) {
                places += shares[k];
            }
            return places;
        }

        int roomIn(int fare) {
            int least = limits[0] - shareFrom(0);
            for (int k = 1; k <= fare; k++) {
                least = Math.min(least, limits[k] - shareFrom(k));
            }
            return least;
        }

        int roomWithout(Booking b, int fare) {
            shares[b.fare] -= b.places;
            int left = roomIn(fare);
            shares[b.fare] += b.places;
            return left;
        }

        int partBack(int fare, int part) {
            switch (fare) {
                case 0:
                    return part;
                case 1:
                    return part * 3 / 4;
                case 2:
                    return part * 2 / 4;
                default:
                    return 0;
            }
        }
    }

    private static final class Cabin {
        /** Of each seat the number of the booking that has it, or NONE. */
        final int[] holders;
        int free;

        Cabin(int capacity) {
            holders = new int[capacity];
            Arrays.fill(holders, NONE);
            free = capacity;
        }

        boolean hasSeat(int seat) {
            return seat >= 0 && seat < holders.length;
        }

        boolean isFree(int seat) {
            return holders[seat] == NONE;
        }

        void give(Booking b, int seat) {
            holders[seat] = b.number;
            b.seats[b.seated] = seat;
            b.seated++;
            free--;
        }

        /** Gives each place that has no seat one, the first free ones from this seat on. */
        void giveMissing(Booking b, int from) {
            for (int seat = from; seat < holders.length && b.seatsMissing() > 0; seat++) {
                if (isFree(seat)) {
                    give(b, seat);
                }
            }
        }

        void takeAllBut(Booking b, int kept) {
            while (b.seated > kept) {
                b.seated--;
                holders[b.seats[b.seated]] = NONE;
                free++;
            }
        }

        /** Where so many seats are best given from: on one side, else in one row, else anywhere. */
        int bestStart(int wanted) {
            int start = blockStart(wanted, SIDE_SEATS);
            if (start == NONE) {
                start = blockStart(wanted, ROW_SEATS);
            }
            return start == NONE ? blockStart(1, SIDE_SEATS) : start;
        }

        /** The first of so many free seats next to one another within one stretch of this width. */
        int blockStart(int wanted, int width) {
            for (int left = 0; left + width <= holders.length; left += width) {
                for (int start = left; start + wanted <= left + width; start++) {
                    if (areFree(start, wanted)) {
                        return start;
                    }
                }
            }
            return NONE;
        }

        boolean areFree(int start, int wanted) {
            for (int seat = start; seat < start + wanted; seat++) {
                if (!isFree(seat)) {
                    return false;
                }
            }
            return true;
        }
    }
}
