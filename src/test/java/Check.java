import java.util.function.Consumer;
import java.util.function.ToLongFunction;

/** Counts answers that are not due, for tests that end with exit code 1 if there was one. */
final class Check {
    static final Class<? extends RuntimeException> INDEX = IndexOutOfBoundsException.class;
    static final Class<? extends RuntimeException> TURN = IllegalStateException.class;
    static final Class<? extends RuntimeException> RANGE = IllegalArgumentException.class;
    static final Class<? extends RuntimeException> MEANING = UnsupportedOperationException.class;

    private static int wrong = 0;

    private Check() {
    }

    static void due(String call, long want, long got) {
        if (got != want) {
            fail(call + " answered " + got + ", due is " + want);
        }
    }

    static void same(String what, String want, String got) {
        if (!want.equals(got)) {
            fail(what + " is\n  " + got + "\n  due is\n  " + want);
        }
    }

    static void fail(String text) {
        wrong++;
        System.out.println(text);
    }

    /** The call throws just that class, and no class below it, as the machine's own would be. */
    static void refused(String call, Class<? extends RuntimeException> want, Runnable body) {
        try {
            body.run();
            fail(call + " threw nothing, due is " + want.getSimpleName());
        } catch (RuntimeException e) {
            if (e.getClass() != want) {
                fail(call + " threw " + e.getClass().getSimpleName() + ", due is " + want.getSimpleName());
            }
        }
    }

    /**
     * The call is refused in the state that setup makes, and a second object that is never asked it
     * tells the same afterwards. Two objects, as the telling itself takes many of the 512 calls.
     */
    static void refusedUnchanged(String call, Class<? extends RuntimeException> want,
            Consumer<ShopLedger> setup, ToLongFunction<ShopLedger> body) {
        ShopLedger asked = new ShopLedger();
        ShopLedger spared = new ShopLedger();
        setup.accept(asked);
        setup.accept(spared);
        refused(call, want, () -> body.applyAsLong(asked));
        same("the state behind " + call, Telling.all(spared), Telling.all(asked));
    }

    static void end(String test) {
        System.out.println(test + (wrong == 0 ? ": all answers are as due" : ": " + wrong + " answers are not as due"));
        if (wrong != 0) {
            System.exit(1);
        }
    }
}
