/** Compares answers with those that are due, tells each that differs, and ends the test. */
final class Check {
    /** A call of the desk that may be refused. */
    interface Call {
        void run();
    }

    private int checked;
    private int wrong;

    int checked() {
        return checked;
    }

    void same(String what, long got, long due) {
        count(got == due, what + " answered " + got + ", due is " + due);
    }

    void same(String what, String got, String due) {
        count(got.equals(due), what + "\n  is  " + got + "\n  due " + due);
    }

    void holds(String what, boolean good) {
        count(good, "does not hold: " + what);
    }

    /** Due is the class of an exception; null if the call must answer. */
    void throwsJust(String what, Class<?> due, Call call) {
        Class<?> got = thrownBy(call);
        count(got == due, what + " threw " + got + ", due is " + due);
    }

    /** The class of what the call throws; null if it answers. */
    static Class<?> thrownBy(Call call) {
        try {
            call.run();
            return null;
        } catch (RuntimeException e) {
            return e.getClass();
        }
    }

    private void count(boolean good, String told) {
        checked++;
        if (!good) {
            wrong++;
            System.out.println(told);
        }
    }

    void end() {
        System.out.println(checked + " answers, " + wrong + " not as due");
        if (wrong > 0 || checked == 0) {
            System.exit(1);
        }
    }
}
