import java.util.function.Consumer;

/**
 * The edges of one argument: the last values inside are taken, the first ones outside and the ones
 * farthest outside are refused, each of them on an object of its own, and change nothing.
 */
final class Edges {
    /** The call with one argument left open. */
    interface Call {
        long of(ShopLedger x, int v);
    }

    private Edges() {
    }

    /** 0 .. count - 1; 256 and 65,536 would be 0 for a machine that kept 8 or 16 bits of them. */
    static void index(String argument, int count, Consumer<ShopLedger> setup, Call call) {
        taken(argument, setup, call, 0, count - 1);
        refused(argument, Check.INDEX, setup, call,
            -1, count, 256, 65_536, -65_536, Integer.MIN_VALUE, Integer.MAX_VALUE);
    }

    static void range(String argument, int least, int most, Consumer<ShopLedger> setup, Call call) {
        taken(argument, setup, call, least, least + 1, most - 1, most);
        refused(argument, Check.RANGE, setup, call,
            least - 1, most + 1, Integer.MIN_VALUE, Integer.MAX_VALUE);
    }

    static void taken(String argument, Consumer<ShopLedger> setup, Call call, int... values) {
        for (int v : values) {
            ShopLedger x = new ShopLedger();
            setup.accept(x);
            Check.taken(argument + " " + v, () -> call.of(x, v));
        }
    }

    static void refused(String argument, Class<? extends RuntimeException> want,
            Consumer<ShopLedger> setup, Call call, int... values) {
        String before = Telling.behind(setup);
        for (int v : values) {
            Check.refusedUnchanged(argument + " " + v, want, setup, before, x -> call.of(x, v));
        }
    }
}
