/** Compares answers with those that are due, tells each that differs, and ends the test. */
final class Check {
    /** A call of the desk that may be refused. */
    interface Call {
        void run();
    }

    private int checked;
    private int wrong;

    void same(String what, long got, long due) {
        checked++;
        if (got != due) {
            wrong++;
            System.out.println(what + " answered " + got + ", due is " + due);
        }
    }

    void badArgument(String what, Call call) {
        throwsJust(what, IllegalArgumentException.class, call);
    }

    void badState(String what, Call call) {
        throwsJust(what, IllegalStateException.class, call);
    }

    void unsupported(String what, Call call) {
        throwsJust(what, UnsupportedOperationException.class, call);
    }

    private void throwsJust(String what, Class<?> due, Call call) {
        checked++;
        Class<?> got = thrownBy(call);
        if (got != due) {
            wrong++;
            System.out.println(what + " threw " + got + ", due is " + due);
        }
    }

    /** The class of what the call throws; null if it answers. */
    static Class<?> thrownBy(Call call) {
        try {
            call.run();
            return null;
        } catch (RuntimeException e) {
            return e.getClass();
        }
    }

    void end() {
        System.out.println(checked + " answers, " + wrong + " not as due");
        if (wrong > 0 || checked == 0) {
            System.exit(1);
        }
    }
}
