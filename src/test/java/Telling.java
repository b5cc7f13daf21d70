import java.util.function.LongSupplier;

/** Everything that an object can be made to tell, as one text. It uses the object up. */
final class Telling {
    private static final int ENTRIES_READ = 24;

    private Telling() {
    }

    static String all(ShopLedger x) {
        StringBuilder text = new StringBuilder();
        counts(x, text);
        balances(x, text);
        entries(x, text);
        for (int order = 0; order < 8; order++) {
            int k = order;
            add(text, "share", () -> x.share(k, 999_999_937));
        }
        for (int stock = 0; stock < 4; stock++) {
            for (int what = 0; what < 3; what++) {
                add(text, "in", x.in(stock, what));
            }
        }
        for (int money = 0; money < 3; money++) {
            int m = money;
            add(text, "foreign", () -> x.foreign(m, 180, 1_000_000_000));
            add(text, "foreign", () -> x.foreign(m, 365, 1_000_000_000));
        }
        for (int piece = 0; piece < x.many(4); piece++) {
            add(text, "opened", x.opened(piece));
        }
        hidden(x, text);
        return text.toString();
    }

    private static void counts(ShopLedger x, StringBuilder text) {
        for (int what = 0; what < 5; what++) {
            add(text, "many", x.many(what));
        }
    }

    private static void balances(ShopLedger x, StringBuilder text) {
        for (int what = 0; what < 3; what++) {
            for (int k = 0; k < (what == 2 ? 12 : 8); k++) {
                add(text, "balance", x.told(what, k));
            }
        }
    }

    /** The last entries only: a full book is more than 512 calls can tell. */
    private static void entries(ShopLedger x, StringBuilder text) {
        int count = x.many(0);
        for (int k = Math.max(0, count - ENTRIES_READ); k < count; k++) {
            for (int what = 3; what < 8; what++) {
                add(text, "entry", x.told(what, k));
            }
        }
    }

    /** What no call reads: the lines told and which batches can be reversed show by what follows. */
    private static void hidden(ShopLedger x, StringBuilder text) {
        add(text, "reverse", () -> x.reverse(0, 11));
        add(text, "reverse", () -> x.reverse(1, 11));
        add(text, "put", x::put);
        balances(x, text);
    }

    private static void add(StringBuilder text, String name, long answer) {
        text.append(name).append(' ').append(answer).append("; ");
    }

    private static void add(StringBuilder text, String name, LongSupplier call) {
        text.append(name).append(' ');
        try {
            text.append(call.getAsLong());
        } catch (RuntimeException e) {
            text.append(e.getClass().getSimpleName());
        }
        text.append("; ");
    }
}
