import java.util.List;
import java.util.Map;
import java.util.TreeSet;
import java.util.function.Consumer;

/**
 * "Nothing is promised beyond the answers and state changes described above": a call that is answered
 * changes the parts of the state that its promise names, each of them, and no other.
 */
public final class ChangesTest {
    private static final String[] NOTHING = {};
    /** One more batch, whatever made it; the lines told would be put with another number. */
    private static final String[] BATCH = {"many 0", "many 1", "entries", "reversals", "lines"};

    private static final Map<String, String> BEFORE = Telling.parts(Setup::some);

    public static void main(String[] args) {
        Check.sentence("line: one more line", ChangesTest::line);
        Check.sentence("put: the lines become entries and are gone", ChangesTest::put);
        Check.sentence("drop: forgets the lines", ChangesTest::drop);
        Check.sentence("correct: two entries, and the accounts' balances", ChangesTest::correct);
        Check.sentence("reverse: the entries turned round", ChangesTest::reverse);
        Check.sentence("close: one more month is closed", ChangesTest::close);
        Check.sentence("told, many: nothing", ChangesTest::told);
        Check.sentence("weight: the weights", ChangesTest::weight);
        Check.sentence("share: nothing", ChangesTest::share);
        Check.sentence("stock, take: that stock", ChangesTest::stock);
        Check.sentence("in: nothing", ChangesTest::in);
        Check.sentence("rate: that money", ChangesTest::rate);
        Check.sentence("foreign: nothing", ChangesTest::foreign);
        Check.sentence("piece: the pieces", ChangesTest::piece);
        Check.sentence("opened: nothing", ChangesTest::opened);
        Check.end("ChangesTest");
    }

    private static void expect(String call, Consumer<ShopLedger> body, String[] parts, String... more) {
        Map<String, String> behind = Telling.parts(x -> {
            Setup.some(x);
            body.accept(x);
        });
        TreeSet<String> want = new TreeSet<>(List.of(parts));
        want.addAll(List.of(more));
        TreeSet<String> changed = new TreeSet<>();
        for (String name : BEFORE.keySet()) {
            if (!BEFORE.get(name).equals(behind.get(name))) {
                changed.add(name);
            }
        }
        Check.same("what " + call + " changes", want.toString(), changed.toString());
    }

    private static void line() {
        expect("line", x -> x.line(5, 5, 5, 1), NOTHING, "many 2", "lines");
    }

    /** The lines told are of orders 0, 1 and 2; order 1 has pieces. */
    private static void put() {
        expect("put", ShopLedger::put, BATCH, "many 2", "balances 0", "balances 1", "balances 2", "pieces");
    }

    private static void drop() {
        expect("drop", ShopLedger::drop, NOTHING, "many 2", "lines");
    }

    private static void correct() {
        expect("correct in the latest closed month", x -> x.correct(0, 1, 1, 1, 9), BATCH, "balances 0");
        expect("correct in an open month", x -> x.correct(7, 6, 0, 11, 9), BATCH, "balances 0");
    }

    /** Batch 0 is of orders 1 and 2, the correction of one order; in one month each sums to nothing. */
    private static void reverse() {
        expect("reverse", x -> x.reverse(0, 3), BATCH, "balances 0", "balances 1", "pieces");
        expect("reverse of a correction", x -> x.reverse(1, 2), BATCH, "balances 0");
    }

    /** One of the lines told is of month 2. */
    private static void close() {
        expect("close", ShopLedger::close, NOTHING, "many 3", "months", "lines");
    }

    private static void told() {
        expect("told", x -> {
            for (int what = 0; what < 8; what++) {
                for (int k = 0; k < (what < 2 ? 8 : what == 2 ? 12 : 4); k++) {
                    x.told(what, k);
                }
            }
        }, NOTHING);
        expect("many", x -> {
            for (int what = 0; what < 5; what++) {
                x.many(what);
            }
        }, NOTHING);
    }

    private static void weight() {
        expect("weight of an order that had none", x -> x.weight(5, 9), NOTHING, "weights");
        expect("weight of 0", x -> x.weight(2, 0), NOTHING, "weights");
        expect("the same weight again", x -> x.weight(2, 5), NOTHING);
    }

    private static void share() {
        expect("share", x -> {
            for (int order = 0; order < 8; order++) {
                x.share(order, 0);
                x.share(order, 1_000_000_000);
            }
        }, NOTHING);
    }

    private static void stock() {
        for (int stock = 0; stock < 4; stock++) {
            int s = stock;
            expect("stock " + stock, x -> x.stock(s, 3, 3), NOTHING, "stock " + stock);
        }
        expect("take of a part", x -> x.take(1, 1), NOTHING, "stock 1");
        expect("take of all", x -> x.take(1, 26), NOTHING, "stock 1");
    }

    private static void in() {
        expect("in", x -> {
            for (int stock = 0; stock < 4; stock++) {
                for (int what = 0; what < 3; what++) {
                    x.in(stock, what);
                }
            }
        }, NOTHING);
    }

    private static void rate() {
        for (int money = 0; money < 3; money++) {
            int m = money;
            expect("rate of money " + money, x -> x.rate(m, 300, 7), NOTHING, "money " + money);
        }
    }

    private static void foreign() {
        expect("foreign", x -> {
            x.foreign(2, 100, 0);
            x.foreign(2, 199, 1_000_000_000);
            x.foreign(2, 365, 1);
        }, NOTHING);
    }

    private static void piece() {
        for (int order = 0; order < 8; order++) {
            int k = order;
            expect("piece of order " + order, x -> x.piece(k, 5), NOTHING, "many 4", "pieces");
        }
    }

    private static void opened() {
        expect("opened", x -> {
            x.opened(0);
            x.opened(1);
            x.opened(0);
        }, NOTHING);
    }
}
