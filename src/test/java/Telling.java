import java.util.LinkedHashMap;
import java.util.Map;
import java.util.function.Consumer;
import java.util.function.LongSupplier;

/**
 * All that objects of one state can be made to tell, as text. Asking changes an object and takes
 * of its 512 calls, so each kind of question goes to a new one, and takes 290 calls at the most.
 */
final class Telling {
    private static final int ENTRIES_A_TIME = 50;
    private static final int DAYS_A_TIME = 183;

    private final Consumer<ShopLedger> setup;
    private final Map<String, String> parts = new LinkedHashMap<>();
    /** The part that is being told. */
    private StringBuilder text = new StringBuilder();

    private Telling(Consumer<ShopLedger> setup) {
        this.setup = setup;
    }

    static String behind(Consumer<ShopLedger> setup) {
        return parts(setup).toString();
    }

    /** The same by parts of the state, each with its name. */
    static Map<String, String> parts(Consumer<ShopLedger> setup) {
        Telling telling = new Telling(setup);
        telling.counts();
        telling.part("entries", telling::entries);
        telling.part("reversals", () -> telling.reversals(telling.made()));
        telling.part("lines", telling::lines);
        telling.part("months", () -> telling.months(telling.made()));
        for (int stock = 0; stock < 4; stock++) {
            int s = stock;
            telling.part("stock " + stock, () -> telling.stock(s));
        }
        for (int money = 0; money < 3; money++) {
            int m = money;
            telling.part("money " + money, () -> telling.money(m));
        }
        telling.part("weights", () -> telling.weights(telling.made()));
        telling.part("pieces", () -> telling.pieces(telling.made()));
        return telling.parts;
    }

    private void part(String name, Runnable telling) {
        text = new StringBuilder();
        telling.run();
        parts.put(name, text.toString());
    }

    private ShopLedger made() {
        ShopLedger x = new ShopLedger();
        setup.accept(x);
        return x;
    }

    private void counts() {
        ShopLedger x = made();
        for (int what = 0; what < 5; what++) {
            int w = what;
            part("many " + what, () -> add("many", x.many(w)));
        }
        for (int what = 0; what < 3; what++) {
            int w = what;
            part("balances " + what, () -> balances(x, w));
        }
    }

    private void balances(ShopLedger x, int what) {
        for (int k = 0; k < (what == 2 ? 12 : 8); k++) {
            add("balance", x.told(what, k));
        }
    }

    private void allBalances(ShopLedger x) {
        for (int what = 0; what < 3; what++) {
            balances(x, what);
        }
    }

    private void entries() {
        int count = made().many(0);
        for (int from = 0; from < count; from += ENTRIES_A_TIME) {
            entries(made(), from, Math.min(count, from + ENTRIES_A_TIME));
        }
    }

    private void entries(ShopLedger x, int from, int end) {
        for (int k = from; k < end; k++) {
            for (int what = 3; what < 8; what++) {
                add("entry", x.told(what, k));
            }
        }
    }

    /** Which batches were reversed or are reversals shows when each is to be reversed. */
    private void reversals(ShopLedger x) {
        int batches = x.many(1);
        for (int batch = 0; batch < batches; batch++) {
            int b = batch;
            ask("reverse", () -> x.reverse(b, 11));
        }
        allBalances(x);
    }

    /** The lines told show when they are put, and their number by how many more there is room for. */
    private void lines() {
        ShopLedger x = made();
        int before = x.many(0);
        ask("put", x::put);
        entries(x, before, x.many(0));
        allBalances(x);
        add("lines behind", x.many(2));
        ShopLedger y = made();
        for (int i = 0; i < 17; i++) {
            ask("line", () -> y.line(7, 7, 11, 1));
        }
    }

    private void months(ShopLedger x) {
        for (int month = 0; month < 12; month++) {
            int m = month;
            askWhether("correct", () -> x.correct(0, 1, 0, m, 1));
        }
        for (int i = 0; i < 13; i++) {
            ask("close", x::close);
        }
    }

    private void stock(int stock) {
        layers(made(), stock);
        ShopLedger x = made();
        for (int i = 0; i < 13; i++) {
            ask("stock", () -> x.stock(stock, 1, 1));
        }
    }

    /** One by one, as far as that goes, then all in the largest steps and the rest. */
    private void layers(ShopLedger x, int stock) {
        for (int what = 0; what < 3; what++) {
            add("in", x.in(stock, what));
        }
        for (int i = 0; i < 30; i++) {
            ask("take", () -> x.take(stock, 1));
        }
        for (int i = 0; i < 12; i++) {
            ask("take", () -> x.take(stock, 1_000_000));
        }
        ask("take", () -> x.take(stock, (int) x.in(stock, 0)));
        add("in", x.in(stock, 2));
    }

    /** 10,000 units are as many cents as the rate. */
    private void money(int money) {
        for (int from = 0; from <= 365; from += DAYS_A_TIME) {
            ShopLedger x = made();
            for (int day = from; day < from + DAYS_A_TIME; day++) {
                int d = day;
                ask("foreign", () -> x.foreign(money, d, 10_000));
            }
        }
        ShopLedger x = made();
        for (int day = 355; day <= 365; day++) {
            int d = day;
            ask("rate", () -> x.rate(money, d, 1));
        }
    }

    /** Shares tell the weights but for a factor, which shows behind a weight that is known. */
    private void weights(ShopLedger x) {
        shares(x);
        x.weight(0, 1_000_000);
        shares(x);
        x.weight(7, 999_999);
        shares(x);
    }

    private void shares(ShopLedger x) {
        for (int order = 0; order < 8; order++) {
            int k = order;
            ask("share", () -> x.share(k, 1_000_000_000));
        }
    }

    /** Once by the balances as they are, once more behind a batch that moves each order's. */
    private void pieces(ShopLedger x) {
        opened(x);
        for (int i = 0; i < 11; i++) {
            ask("piece", () -> x.piece(0, 1));
        }
        x.drop();
        for (int order = 0; order < 7; order++) {
            x.line(0, order, 11, (order + 1) * 1_000_003);
        }
        x.line(0, 7, 11, -28 * 1_000_003);
        askWhether("put", x::put);
        opened(x);
    }

    private void opened(ShopLedger x) {
        int pieces = x.many(4);
        for (int piece = 0; piece < pieces; piece++) {
            add("opened", x.opened(piece));
        }
    }

    private void add(String name, long answer) {
        text.append(name).append(' ').append(answer).append("; ");
    }

    /** Whether it is taken: the number of a batch would tell how many there were, which is told elsewhere. */
    private void askWhether(String name, LongSupplier call) {
        ask(name, () -> {
            call.getAsLong();
            return 0;
        });
    }

    private void ask(String name, LongSupplier call) {
        text.append(name).append(' ');
        try {
            text.append(call.getAsLong());
        } catch (RuntimeException e) {
            text.append(e.getClass().getSimpleName());
        }
        text.append("; ");
    }
}
