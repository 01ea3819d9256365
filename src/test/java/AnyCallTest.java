import java.lang.reflect.InvocationTargetException;
import java.lang.reflect.Method;
import java.lang.reflect.Modifier;
import java.util.ArrayList;
import java.util.Comparator;
import java.util.List;
import java.util.Random;

/**
 * "A call of the face throws exactly what and where the document says, and nothing else ever reaches
 * its caller"; no call may "fail to end, for any arguments in any state" (LANGUAGE.md, rules 6, 7 and
 * 13). Where an exception is due is for the other tests; here none is thrown that the face does not
 * name, and the same calls answer the same.
 */
public final class AnyCallTest {
    private static final long MOST_MILLISECONDS = 120_000;
    private static final int DESKS = 300;
    /** Far more than are promised: what later calls answer is free, but not that they answer. */
    private static final int CALLS = 2000;
    private static final int[] NUMBERS = {
        Integer.MIN_VALUE, Integer.MIN_VALUE + 1, -60, -7, -2, -1, 0, 1, 2, 3, 4, 5, 6, 7, 11, 12, 49, 50, 51,
        58, 59, 60, 61, 98, 99, 100, 101, 9999, 10000, 1 << 30, Integer.MAX_VALUE - 1, Integer.MAX_VALUE};

    private final Check check = new Check();
    private final List<Method> calls = new ArrayList<>();
    private final Random random = new Random(20261115);
    private volatile boolean ended;

    private AnyCallTest() {
        for (Method method : FareDesk.class.getDeclaredMethods()) {
            if (Modifier.isPublic(method.getModifiers())) {
                calls.add(method);
            }
        }
        // The order in which they are listed is not promised, and would change what is tried.
        calls.sort(Comparator.comparing(Method::getName));
    }

    public static void main(String[] args) throws InterruptedException {
        AnyCallTest test = new AnyCallTest();
        Thread all = new Thread(test::run);
        all.setDaemon(true);
        all.start();
        all.join(MOST_MILLISECONDS);
        test.check.holds("every call ended", test.ended);
        test.check.end();
    }

    private void run() {
        for (int number : NUMBERS) {
            check.throwsJust("new FareDesk(" + number + ")", null, () -> new FareDesk(number));
        }
        check.same("calls of the face", calls.size(), 16);
        for (Sentences.Setup setup : setups()) {
            for (Method call : calls) {
                everyArgument(setup, call, new Object[call.getParameterCount()], 0);
            }
        }
        for (int i = 0; i < DESKS; i++) {
            longLife(random.nextInt(12));
        }
        ended = true;
    }

    /** Desks on which the arguments above lie inside and outside, at the edges and far from them. */
    private static List<Sentences.Setup> setups() {
        List<Sentences.Setup> setups = new ArrayList<>();
        setups.add(() -> new FareDesk(1));
        setups.add(Desks::closed);
        for (int state = Desks.HELD; state <= Desks.LEFT_BEHIND; state++) {
            int one = state;
            setups.add(() -> Desks.with(one));
        }
        setups.add(() -> Desks.crowded(60));
        return setups;
    }

    private void everyArgument(Sentences.Setup setup, Method call, Object[] values, int given) {
        if (given == values.length) {
            answer(setup.make(), call, values);
            return;
        }
        for (int number : NUMBERS) {
            values[given] = number;
            everyArgument(setup, call, values, given + 1);
        }
    }

    private void longLife(int rows) {
        FareDesk one = new FareDesk(rows);
        FareDesk other = new FareDesk(rows);
        boolean alike = true;
        for (int i = 0; i < CALLS; i++) {
            Method call = calls.get(random.nextInt(calls.size()));
            // Nothing much happens on a desk that is closed early.
            if (!call.getName().equals("close") || random.nextInt(CALLS / 2) == 0) {
                Object[] values = someArguments(call.getParameterCount());
                alike &= answer(one, call, values).equals(answer(other, call, values));
            }
        }
        check.holds("the same calls on two desks answer the same", alike);
    }

    private Object[] someArguments(int howMany) {
        Object[] values = new Object[howMany];
        for (int i = 0; i < howMany; i++) {
            boolean odd = random.nextInt(12) == 0;
            values[i] = odd ? NUMBERS[random.nextInt(NUMBERS.length)] : random.nextInt(i == 0 ? 60 : 8);
            if (i == 0 && random.nextBoolean()) {
                values[i] = random.nextInt(4);
            }
        }
        return values;
    }

    private String answer(FareDesk desk, Method call, Object[] values) {
        try {
            return String.valueOf(call.invoke(desk, values));
        } catch (InvocationTargetException e) {
            Class<?> thrown = e.getCause().getClass();
            if (!List.of(call.getExceptionTypes()).contains(thrown)) {
                check.holds(call.getName() + List.of(values) + " throws nothing else: " + e.getCause(), false);
            }
            return thrown.getName();
        } catch (IllegalAccessException e) {
            throw new IllegalStateException(e);
        }
    }
}
