import java.util.ArrayList;
import java.util.List;

/**
 * The document's words as they stand, with nothing kept that can be counted anew: what FareDesk is
 * compared with. It shares no line with it, so that a slip in one shows.
 */
final class PlainDesk {
    private static final class Entry {
        int state;
        int fare;
        int places;
        int ticks;
        int expires;
        int paid;
        final List<Integer> seats = new ArrayList<>();

        boolean counts() {
            return state == 1 || state == 2;
        }
    }

    private final int capacity;
    private final int[] limits;
    private final int[] prices = {400, 300, 200, 100};
    private final List<Entry> entries = new ArrayList<>();
    private final List<Entry> waitingList = new ArrayList<>();
    private int time;
    private int till;
    private boolean closed;

    PlainDesk(int rows) {
        capacity = 6 * (rows < 1 ? 1 : rows > 10 ? 10 : rows);
        limits = new int[] {capacity, capacity, capacity, capacity};
    }

    void limit(int fare, int limit) {
        argument(isFare(fare) && limit >= 0 && limit <= 99);
        argument(fare == 0 || limit <= limits[fare - 1]);
        argument(fare == 3 || limit >= limits[fare + 1]);
        state(!closed);
        limits[fare] = limit;
        serve();
    }

    void price(int fare, int price) {
        argument(isFare(fare) && price >= 0 && price <= 9999);
        prices[fare] = price;
    }

    int room(int fare) {
        argument(isFare(fare));
        int least = Integer.MAX_VALUE;
        for (int k = 0; k <= fare; k++) {
            int taken = 0;
            for (Entry e : entries) {
                if (e.fare >= k && (e.counts() || e.state == 6)) {
                    taken += e.places;
                }
            }
            least = Math.min(least, limits[k] - taken);
        }
        return least;
    }

    int hold(int fare, int places, int ticks) {
        argument(isFare(fare) && places >= 1 && places <= 6 && ticks >= 1 && ticks <= 50);
        state(!closed && entries.size() < 60);
        supported(room(fare) >= places);
        Entry e = entry(fare, places, ticks);
        e.state = 1;
        e.expires = time + ticks;
        return entries.size() - 1;
    }

    int join(int fare, int places, int ticks) {
        argument(isFare(fare) && places >= 1 && places <= 6 && ticks >= 1 && ticks <= 50);
        state(!closed && entries.size() < 60);
        Entry e = entry(fare, places, ticks);
        e.state = 3;
        waitingList.add(e);
        serve();
        return entries.size() - 1;
    }

    int confirm(int booking) {
        Entry e = get(booking);
        state(e.state == 1);
        e.state = 2;
        e.paid = e.places * prices[e.fare];
        till += e.paid;
        return e.paid;
    }

    int cancel(int booking) {
        Entry e = get(booking);
        state(e.counts() || e.state == 3);
        int back = back(e, e.places);
        waitingList.remove(e);
        e.seats.clear();
        e.state = 4;
        serve();
        return back;
    }

    int shrink(int booking, int n) {
        Entry e = get(booking);
        argument(n >= 1 && n <= e.places - 1);
        state(e.counts() || e.state == 3);
        int back = back(e, n);
        e.places -= n;
        while (e.seats.size() > e.places) {
            e.seats.remove(e.seats.size() - 1);
        }
        serve();
        return back;
    }

    void change(int booking, int fare) {
        Entry e = get(booking);
        argument(isFare(fare));
        state(e.counts());
        int before = e.state;
        e.state = 4;
        int left = room(fare);
        e.state = before;
        supported(left >= e.places);
        e.fare = fare;
        serve();
    }

    int seat(int booking, int seat) {
        Entry e = get(booking);
        argument(seat >= 0 && seat < capacity);
        state(e.state == 2 && e.seats.size() < e.places);
        supported(at(seat) == -1);
        e.seats.add(seat);
        return e.seats.size();
    }

    int together(int booking) {
        Entry e = get(booking);
        state(e.state == 2 && e.seats.size() < e.places);
        int wanted = e.places - e.seats.size();
        List<Integer> free = freeSeats();
        supported(free.size() >= wanted);
        List<Integer> chosen = neighbours(free, wanted, true);
        if (chosen == null) {
            chosen = neighbours(free, wanted, false);
        }
        if (chosen == null) {
            chosen = free.subList(0, wanted);
        }
        e.seats.addAll(chosen);
        return chosen.get(0);
    }

    void tick(int n) {
        argument(n >= 1 && n <= 100);
        for (int i = 0; i < n; i++) {
            time++;
            boolean some = false;
            for (Entry e : entries) {
                if (e.state == 1 && e.expires == time) {
                    e.state = 5;
                    some = true;
                }
            }
            if (some) {
                serve();
            }
        }
    }

    int close() {
        state(!closed);
        closed = true;
        waitingList.clear();
        for (Entry e : entries) {
            e.state = e.state == 1 ? 5 : e.state == 3 ? 4 : e.state;
        }
        int boarded = 0;
        for (int fare = 0; fare < 4; fare++) {
            for (Entry e : entries) {
                if (e.state == 2 && e.fare == fare) {
                    board(e);
                    boarded += e.state == 6 ? e.places : 0;
                }
            }
        }
        return boarded;
    }

    int of(int booking, int what) {
        Entry e = get(booking);
        argument(what >= 0 && what <= 6);
        int expires = e.state == 1 ? e.expires : -1;
        int first = e.seats.isEmpty() ? -1 : e.seats.get(0);
        int[] all = {e.state, e.fare, e.places, e.seats.size(), e.paid, expires, first};
        return all[what];
    }

    int at(int seat) {
        for (int i = 0; i < entries.size(); i++) {
            if (entries.get(i).seats.contains(seat)) {
                return i;
            }
        }
        return -1;
    }

    int count(int which) {
        argument(which >= 0 && which <= 6);
        int taken = 0;
        for (Entry e : entries) {
            taken += e.counts() || e.state == 6 ? e.places : 0;
        }
        int[] all = {time, entries.size(), taken, waitingList.size(), till, freeSeats().size(), closed ? 1 : 0};
        return all[which];
    }

    private void serve() {
        boolean again = true;
        while (again) {
            again = false;
            for (int i = 0; i < waitingList.size() && !again; i++) {
                Entry e = waitingList.get(i);
                if (room(e.fare) >= e.places) {
                    waitingList.remove(i);
                    e.state = 1;
                    e.expires = time + e.ticks;
                    again = true;
                }
            }
        }
    }

    private int back(Entry e, int places) {
        if (e.state != 2) {
            return 0;
        }
        int part = e.paid * places / e.places;
        int back = part * new int[] {4, 3, 2, 0}[e.fare] / 4;
        e.paid -= part;
        till -= back;
        return back;
    }

    private void board(Entry e) {
        List<Integer> free = freeSeats();
        int wanted = e.places - e.seats.size();
        if (free.size() >= wanted) {
            e.seats.addAll(free.subList(0, wanted));
            e.state = 6;
        } else {
            e.seats.clear();
            e.state = 7;
            till -= e.paid;
            e.paid = 0;
        }
    }

    private List<Integer> neighbours(List<Integer> free, int wanted, boolean oneSide) {
        for (int row = 0; row < capacity / 6; row++) {
            for (int from = 0; from + wanted <= 6; from++) {
                boolean overAisle = from <= 2 && from + wanted - 1 >= 3;
                List<Integer> block = new ArrayList<>();
                for (int i = 0; i < wanted; i++) {
                    block.add(6 * row + from + i);
                }
                if (free.containsAll(block) && !(oneSide && overAisle)) {
                    return block;
                }
            }
        }
        return null;
    }

    private List<Integer> freeSeats() {
        List<Integer> free = new ArrayList<>();
        for (int seat = 0; seat < capacity; seat++) {
            if (at(seat) == -1) {
                free.add(seat);
            }
        }
        return free;
    }

    private Entry entry(int fare, int places, int ticks) {
        Entry e = new Entry();
        e.fare = fare;
        e.places = places;
        e.ticks = ticks;
        entries.add(e);
        return e;
    }

    private Entry get(int booking) {
        argument(booking >= 0 && booking < entries.size());
        return entries.get(booking);
    }

    private static boolean isFare(int fare) {
        return fare >= 0 && fare <= 3;
    }

    private static void argument(boolean good) {
        if (!good) {
            throw new IllegalArgumentException();
        }
    }

    private static void state(boolean good) {
        if (!good) {
            throw new IllegalStateException();
        }
    }

    private static void supported(boolean good) {
        if (!good) {
            throw new UnsupportedOperationException();
        }
    }
}
