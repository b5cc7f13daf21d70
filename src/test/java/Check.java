import java.util.function.Consumer;
import java.util.function.ToLongFunction;

/** Counts answers that are not due, for tests that end with exit code 1 if there was one. */
final class Check {
    static final Class<? extends RuntimeException> INDEX = IndexOutOfBoundsException.class;
    static final Class<? extends RuntimeException> TURN = IllegalStateException.class;
    static final Class<? extends RuntimeException> RANGE = IllegalArgumentException.class;
    static final Class<? extends RuntimeException> MEANING = UnsupportedOperationException.class;

    private static int wrong = 0;

    private Check() {
    }

    /** A test of one sentence of the document; what it throws counts as one wrong answer. */
    static void sentence(String text, Runnable test) {
        int before = wrong;
        try {
            test.run();
        } catch (RuntimeException e) {
            fail("a call that is not refused threw " + e);
        }
        if (wrong != before) {
            System.out.println("BROKEN: " + text);
        }
    }

    static void due(String call, long want, long got) {
        if (got != want) {
            fail(call + " answered " + got + ", due is " + want);
        }
    }

    static void same(String what, String want, String got) {
        if (!want.equals(got)) {
            fail(what + " is\n  " + got + "\n  due is\n  " + want);
        }
    }

    static void fail(String text) {
        wrong++;
        System.out.println(text);
    }

    /** The call throws nothing; what it answers is looked at elsewhere. */
    static void taken(String call, Runnable body) {
        try {
            body.run();
        } catch (RuntimeException e) {
            fail(call + " threw " + e.getClass().getSimpleName() + ", due is an answer");
        }
    }

    /** The call throws just that class, and no class below it, as the machine's own would be. */
    static boolean refused(String call, Class<? extends RuntimeException> want, Runnable body) {
        try {
            body.run();
            fail(call + " threw nothing, due is " + want.getSimpleName());
            return false;
        } catch (RuntimeException e) {
            if (e.getClass() != want) {
                fail(call + " threw " + e.getClass().getSimpleName() + ", due is " + want.getSimpleName());
            }
            return e.getClass() == want;
        }
    }

    /** The call is refused in the state that setup makes, and what is told afterwards is as it was. */
    static void refusedUnchanged(String call, Class<? extends RuntimeException> want,
            Consumer<ShopLedger> setup, ToLongFunction<ShopLedger> body) {
        refusedUnchanged(call, want, setup, Telling.behind(setup), body);
    }

    /** The same for callers that have the telling of the state already. */
    static void refusedUnchanged(String call, Class<? extends RuntimeException> want,
            Consumer<ShopLedger> setup, String before, ToLongFunction<ShopLedger> body) {
        ShopLedger x = new ShopLedger();
        setup.accept(x);
        if (refused(call, want, () -> body.applyAsLong(x))) {
            String behind = Telling.behind(y -> {
                setup.accept(y);
                quietly(() -> body.applyAsLong(y));
            });
            same("the state behind " + call, before, behind);
        }
    }

    private static void quietly(Runnable body) {
        try {
            body.run();
        } catch (RuntimeException e) {
            // That it is refused, and how, was looked at before.
        }
    }

    static void end(String test) {
        System.out.println(test + (wrong == 0 ? ": all answers are as due" : ": " + wrong + " answers are not as due"));
        if (wrong != 0) {
            System.exit(1);
        }
    }
}
