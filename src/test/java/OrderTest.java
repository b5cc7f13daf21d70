import java.util.ArrayList;
import java.util.List;
import java.util.function.Consumer;

/**
 * Terms: "Checks are made in this order: index, call out of turn, range, meaning". Each call is asked
 * with every set of the faults that it can have at once, and is refused for the first kind among them.
 */
public final class OrderTest {
    private static final List<Class<? extends RuntimeException>> KINDS =
        List.of(Check.INDEX, Check.TURN, Check.RANGE, Check.MEANING);
    /** A fault of the state alone, in no argument. */
    private static final int NO_PLACE = -1;

    private interface Call {
        long of(ShopLedger x, int[] a);
    }

    private record Fault(String name, Class<? extends RuntimeException> kind, int place, int value,
            Consumer<ShopLedger> state) {
    }

    private final String name;
    private final Call call;
    private final Consumer<ShopLedger> state;
    private final int[] good;
    private final List<Fault> faults = new ArrayList<>();
    private int asked = 0;

    private OrderTest(String name, Consumer<ShopLedger> state, Call call, int... good) {
        this.name = name;
        this.call = call;
        this.state = state;
        this.good = good;
    }

    public static void main(String[] args) {
        Check.sentence("line: index, turn, range", OrderTest::line);
        Check.sentence("put: turn, meaning", OrderTest::put);
        Check.sentence("correct: index, turn, range, meaning", OrderTest::correct);
        Check.sentence("reverse: index, turn, meaning", OrderTest::reverse);
        Check.sentence("weight: index, range", OrderTest::weight);
        Check.sentence("share: index, range, meaning", OrderTest::share);
        Check.sentence("stock: index, turn, range", OrderTest::stock);
        Check.sentence("take: index, range, meaning", OrderTest::take);
        Check.sentence("rate: index, turn, range", OrderTest::rate);
        Check.sentence("foreign: index, range, meaning", OrderTest::foreign);
        Check.sentence("piece: index, turn, range", OrderTest::piece);
        Check.end("OrderTest");
    }

    private static void line() {
        new OrderTest("line", x -> { }, (x, a) -> x.line(a[0], a[1], a[2], a[3]), 0, 0, 0, 5)
            .wrong(Check.INDEX, 0, -1, 8).wrong(Check.INDEX, 1, -1, 8).wrong(Check.INDEX, 2, -1, 12)
            .state("16 lines", Check.TURN, x -> Setup.lines(x, 8))
            .wrong(Check.RANGE, 3, 0, 1_000_000_001, -1_000_000_001)
            .ask(3 * 3 * 3 * 2 * 4);
    }

    /** The lines themselves are the faults here, so that the sets of them are written out. */
    private static void put() {
        for (int closed = 0; closed < 2; closed++) {
            for (int entries = 196; entries <= 200; entries += 4) {
                for (int over = -1; over <= 1; over++) {
                    ShopLedger x = new ShopLedger();
                    Setup.entries(x, entries);
                    Setup.close(x, closed);
                    x.line(0, 0, 1, 5);
                    x.line(1, 0, 0, over - 5);
                    String call = "put with " + closed + " closed, " + entries + " entries, a sum of " + over;
                    if (closed == 1) {
                        Check.refused(call, Check.TURN, x::put);
                    } else if (entries == 200 || over != 0) {
                        Check.refused(call, Check.MEANING, x::put);
                    } else {
                        Check.taken(call, x::put);
                    }
                }
            }
        }
    }

    private static void correct() {
        new OrderTest("correct", x -> Setup.close(x, 2),
            (x, a) -> x.correct(a[0], a[1], a[2], a[3], a[4]), 0, 1, 0, 1, 1)
            .wrong(Check.INDEX, 0, -1, 8).wrong(Check.INDEX, 1, -1, 8, 0)
            .wrong(Check.INDEX, 2, -1, 8).wrong(Check.INDEX, 3, -1, 12)
            .wrong(Check.TURN, 3, 0)
            .wrong(Check.RANGE, 4, 0, -1, 1_000_000_001)
            .state("200 entries", Check.MEANING, x -> Setup.corrections(x, 100))
            .ask(3 * 4 * 3 * 4 * 4 * 2);
    }

    /** Batch 0 was reversed, 1 is its reversal, 2 can be reversed while there is room. */
    private static void reverse() {
        new OrderTest("reverse", OrderTest::reversed, (x, a) -> x.reverse(a[0], a[1]), 2, 11)
            .wrong(Check.INDEX, 0, -1, 100).wrong(Check.INDEX, 1, -1, 12)
            .wrong(Check.TURN, 1, 0, 1)
            .wrong(Check.MEANING, 0, 0, 1)
            .state("200 entries", Check.MEANING, x -> Setup.corrections(x, 97))
            .ask(5 * 5 * 2);
    }

    private static void reversed(ShopLedger x) {
        Setup.corrections(x, 1);
        x.reverse(0, 11);
        Setup.corrections(x, 1);
        Setup.close(x, 2);
    }

    private static void weight() {
        new OrderTest("weight", x -> { }, (x, a) -> {
            x.weight(a[0], a[1]);
            return 0;
        }, 0, 1).wrong(Check.INDEX, 0, -1, 8).wrong(Check.RANGE, 1, -1, 1_000_001).ask(3 * 3);
    }

    private static void share() {
        new OrderTest("share", x -> x.weight(3, 1), (x, a) -> x.share(a[0], a[1]), 0, 1)
            .wrong(Check.INDEX, 0, -1, 8)
            .wrong(Check.RANGE, 1, -1, 1_000_000_001)
            .state("all weights 0", Check.MEANING, x -> x.weight(3, 0))
            .ask(3 * 3 * 2);
    }

    private static void stock() {
        new OrderTest("stock", x -> { }, (x, a) -> x.stock(a[0], a[1], a[2]), 1, 1, 1)
            .wrong(Check.INDEX, 0, -1, 4)
            .state("12 layers", Check.TURN, x -> Setup.layers(x, 1))
            .wrong(Check.RANGE, 1, 0, 1_000_001).wrong(Check.RANGE, 2, -1, 1_000_001)
            .ask(3 * 2 * 3 * 3);
    }

    private static void take() {
        new OrderTest("take", x -> x.stock(1, 5, 5), (x, a) -> x.take(a[0], a[1]), 1, 1)
            .wrong(Check.INDEX, 0, -1, 4)
            .wrong(Check.RANGE, 1, 0, 1_000_001)
            .wrong(Check.MEANING, 1, 6)
            .state("no pieces", Check.MEANING, x -> x.take(1, 5))
            .ask(3 * 4 * 2);
    }

    /** Also the day that does not rise is one of range, behind ten rates and before none. */
    private static void rate() {
        new OrderTest("rate", x -> x.rate(1, 0, 7), (x, a) -> x.rate(a[0], a[1], a[2]), 1, 200, 1)
            .wrong(Check.INDEX, 0, -1, 3)
            .state("10 rates", Check.TURN, OrderTest::nineMoreRates)
            .wrong(Check.RANGE, 1, -1, 366, 0).wrong(Check.RANGE, 2, 0, 100_000_001)
            .ask(3 * 2 * 4 * 3);
    }

    private static void nineMoreRates(ShopLedger x) {
        for (int day = 1; day < 10; day++) {
            x.rate(1, day, 7);
        }
    }

    private static void foreign() {
        new OrderTest("foreign", x -> x.rate(1, 100, 7), (x, a) -> x.foreign(a[0], a[1], a[2]), 1, 100, 1)
            .wrong(Check.INDEX, 0, -1, 3)
            .wrong(Check.RANGE, 1, -1, 366).wrong(Check.RANGE, 2, -1, 1_000_000_001)
            .wrong(Check.MEANING, 0, 0, 2).wrong(Check.MEANING, 1, 99)
            .ask(5 * 4 * 3);
    }

    private static void piece() {
        new OrderTest("piece", x -> { }, (x, a) -> x.piece(a[0], a[1]), 1, 1)
            .wrong(Check.INDEX, 0, -1, 8)
            .state("10 pieces", Check.TURN, Setup::pieces)
            .wrong(Check.RANGE, 1, 0, 1_000_001)
            .ask(3 * 2 * 3);
    }

    private OrderTest wrong(Class<? extends RuntimeException> kind, int place, int... values) {
        for (int v : values) {
            faults.add(new Fault("argument " + place + " = " + v, kind, place, v, x -> { }));
        }
        return this;
    }

    private OrderTest state(String text, Class<? extends RuntimeException> kind, Consumer<ShopLedger> more) {
        faults.add(new Fault(text, kind, NO_PLACE, 0, more));
        return this;
    }

    /** How many sets there are is told, so that none is passed over without a word. */
    private void ask(int sets) {
        for (int set = 0; set < 1 << faults.size(); set++) {
            List<Fault> some = new ArrayList<>();
            for (int i = 0; i < faults.size(); i++) {
                if ((set >> i & 1) == 1) {
                    some.add(faults.get(i));
                }
            }
            if (canBeAtOnce(some)) {
                ask(some);
                asked++;
            }
        }
        Check.due("sets of faults of " + name, sets, asked);
    }

    private static boolean canBeAtOnce(List<Fault> some) {
        long places = some.stream().filter(f -> f.place != NO_PLACE).count();
        return places == some.stream().map(Fault::place).filter(p -> p != NO_PLACE).distinct().count();
    }

    private void ask(List<Fault> some) {
        ShopLedger x = new ShopLedger();
        state.accept(x);
        int[] a = good.clone();
        for (Fault f : some) {
            f.state.accept(x);
            if (f.place != NO_PLACE) {
                a[f.place] = f.value;
            }
        }
        String text = name + " with " + some.stream().map(Fault::name).toList();
        int first = some.stream().mapToInt(f -> KINDS.indexOf(f.kind)).min().orElse(KINDS.size());
        if (first == KINDS.size()) {
            Check.taken(text, () -> call.of(x, a));
        } else {
            Check.refused(text, KINDS.get(first), () -> call.of(x, a));
        }
    }
}
