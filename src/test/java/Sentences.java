/** Tests of the document's sentences, each said with its heading and its words. */
final class Sentences {
    /** Makes a desk as it is before the call that a test is of. */
    interface Setup {
        FareDesk make();
    }

    interface Call {
        void on(FareDesk x);
    }

    /** A call with the one number whose edges a test is of. */
    interface NumberCall {
        void on(FareDesk x, int number);
    }

    private static final Class<?> BAD_ARGUMENT = IllegalArgumentException.class;
    private static final Class<?> BAD_STATE = IllegalStateException.class;
    private static final Class<?> UNSUPPORTED = UnsupportedOperationException.class;

    private final Check check;
    private final Document document;
    private String sentence = "";

    Sentences(Check check, Document document) {
        this.check = check;
        this.document = document;
    }

    /** One test of one sentence; what it finds is told with the sentence. */
    void test(String heading, String words, Check.Call test) {
        sentence = heading + ", \"" + words + "\": ";
        check.holds(sentence + "it stands in the document", document.quote(heading, words));
        int before = check.checked();
        check.throwsJust(sentence + "the test itself", null, test);
        check.holds(sentence + "its test looks at an answer", check.checked() > before + 1);
    }

    void same(String what, long got, long due) {
        check.same(sentence + what, got, due);
    }

    void allowed(String what, Setup setup, Call call) {
        FareDesk x = setup.make();
        check.throwsJust(sentence + what, null, () -> call.on(x));
    }

    void badArgument(String what, Setup setup, Call call) {
        refused(BAD_ARGUMENT, what, setup, call);
    }

    void badState(String what, Setup setup, Call call) {
        refused(BAD_STATE, what, setup, call);
    }

    void unsupported(String what, Setup setup, Call call) {
        refused(UNSUPPORTED, what, setup, call);
    }

    /** A refused call leaves all as it is: the desk then answers as one that was never asked. */
    private void refused(Class<?> due, String what, Setup setup, Call call) {
        FareDesk x = setup.make();
        check.throwsJust(sentence + what, due, () -> call.on(x));
        check.same(sentence + "the desk after " + what, Desks.tell(x), Desks.tell(setup.make()));
    }

    /** Allowed at both edges, refused as a wrong argument next to them and far from them. */
    void range(String what, int least, int most, Setup setup, NumberCall call) {
        for (int inside : new int[] {least, most}) {
            allowed(what + " of " + inside, setup, x -> call.on(x, inside));
        }
        for (int outside : new int[] {least - 1, most + 1, Integer.MIN_VALUE, Integer.MAX_VALUE}) {
            badArgument(what + " of " + outside, setup, x -> call.on(x, outside));
        }
    }

    /** Of the seven states just these allow the call for booking 0; all others are a wrong state. */
    void onlyIn(String what, int[] allowed, Call call) {
        for (int state = Desks.HELD; state <= Desks.LEFT_BEHIND; state++) {
            int due = state;
            same("the state of the booking to try it with", Desks.with(state).of(0, 0), state);
            if (contains(allowed, state)) {
                allowed(what + " in state " + state, () -> Desks.with(due), call);
            } else {
                badState(what + " in state " + state, () -> Desks.with(due), call);
            }
        }
    }

    private static boolean contains(int[] numbers, int wanted) {
        for (int number : numbers) {
            if (number == wanted) {
                return true;
            }
        }
        return false;
    }

    /** The booking has just these seats, of which the first was given first. */
    void seats(FareDesk x, int booking, int... due) {
        same("how many seats " + booking + " has", x.of(booking, 3), due.length);
        same("the first seat of " + booking, x.of(booking, 6), due.length == 0 ? -1 : due[0]);
        int found = 0;
        for (int seat = 0; seat < 60; seat++) {
            found += x.at(seat) == booking ? 1 : 0;
        }
        same("how many seats are those of " + booking, found, due.length);
        for (int seat : due) {
            same("at(" + seat + ")", x.at(seat), booking);
        }
    }

    void states(FareDesk x, int... due) {
        for (int b = 0; b < due.length; b++) {
            same("the state of " + b, x.of(b, 0), due[b]);
        }
    }

    void rooms(FareDesk x, int... due) {
        for (int fare = 0; fare < due.length; fare++) {
            same("room(" + fare + ")", x.room(fare), due[fare]);
        }
    }
}
