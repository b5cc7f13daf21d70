import java.util.ArrayList;
import java.util.List;
import java.util.function.Consumer;
import java.util.function.ToLongFunction;

/**
 * Terms: "What is refused changes nothing." Each reason for which the document refuses a call is met
 * once by itself, and all of them one behind the other on one object. Of put the lines are gone, so
 * that what it changes is what drop changes.
 */
public final class RefusedTest {
    private record Refusal(String call, Class<? extends RuntimeException> kind, ToLongFunction<ShopLedger> body) {
    }

    private final Consumer<ShopLedger> state;
    private final List<Refusal> refusals = new ArrayList<>();

    private RefusedTest(Consumer<ShopLedger> state) {
        this.state = state;
    }

    public static void main(String[] args) {
        Check.sentence("What is refused changes nothing: a new object", RefusedTest::fresh);
        Check.sentence("What is refused changes nothing: some of everything", RefusedTest::some);
        Check.sentence("What is refused changes nothing: all is full", RefusedTest::full);
        Check.sentence("put: the lines are gone also when this throws, and nothing else is", RefusedTest::put);
        Check.end("RefusedTest");
    }

    private static void fresh() {
        new RefusedTest(x -> { })
            .add("put of no lines", Check.MEANING, ShopLedger::put)
            .add("reverse of no batch", Check.INDEX, x -> x.reverse(0, 0))
            .add("told of no entry", Check.INDEX, x -> x.told(3, 0))
            .add("share by no weights", Check.MEANING, x -> x.share(0, 1))
            .add("take from no layer", Check.MEANING, x -> x.take(0, 1))
            .add("foreign by no rate", Check.MEANING, x -> x.foreign(0, 0, 1))
            .add("opened of no piece", Check.INDEX, x -> x.opened(0))
            .ask();
    }

    private static void some() {
        new RefusedTest(RefusedTest::someReversed)
            .add("line of no account", Check.INDEX, x -> x.line(8, 0, 5, 1))
            .add("line of no order", Check.INDEX, x -> x.line(0, 8, 5, 1))
            .add("line of no month", Check.INDEX, x -> x.line(0, 0, 12, 1))
            .add("line of no sum", Check.RANGE, x -> x.line(0, 0, 5, 0))
            .add("line of too large a sum", Check.RANGE, x -> x.line(0, 0, 5, 1_000_000_001))
            .add("correct from no account", Check.INDEX, x -> x.correct(-1, 0, 0, 5, 1))
            .add("correct to no account", Check.INDEX, x -> x.correct(0, 8, 0, 5, 1))
            .add("correct of one account", Check.INDEX, x -> x.correct(3, 3, 0, 5, 1))
            .add("correct of no order", Check.INDEX, x -> x.correct(0, 1, 8, 5, 1))
            .add("correct of no month", Check.INDEX, x -> x.correct(0, 1, 0, 12, 1))
            .add("correct of a closed month", Check.TURN, x -> x.correct(0, 1, 0, 0, 1))
            .add("correct of no sum", Check.RANGE, x -> x.correct(0, 1, 0, 1, 0))
            .add("reverse of no batch", Check.INDEX, x -> x.reverse(3, 5))
            .add("reverse in no month", Check.INDEX, x -> x.reverse(1, 12))
            .add("reverse in a closed month", Check.TURN, x -> x.reverse(1, 1))
            .add("reverse of what was reversed", Check.MEANING, x -> x.reverse(0, 5))
            .add("reverse of a reversal", Check.MEANING, x -> x.reverse(2, 5))
            .add("told of no what", Check.INDEX, x -> x.told(8, 0))
            .add("told of no account", Check.INDEX, x -> x.told(0, 8))
            .add("told of no entry", Check.INDEX, x -> x.told(3, 6))
            .add("many of no what", Check.INDEX, x -> x.many(5))
            .add("weight of no order", Check.INDEX, x -> weigh(x, 8, 1))
            .add("weight below 0", Check.RANGE, x -> weigh(x, 2, -1))
            .add("weight too large", Check.RANGE, x -> weigh(x, 2, 1_000_001))
            .add("share of no order", Check.INDEX, x -> x.share(8, 1))
            .add("share of too large a sum", Check.RANGE, x -> x.share(2, 1_000_000_001))
            .add("stock of no stock", Check.INDEX, x -> x.stock(4, 1, 1))
            .add("stock of no pieces", Check.RANGE, x -> x.stock(1, 0, 1))
            .add("stock of too large a cost", Check.RANGE, x -> x.stock(1, 1, 1_000_001))
            .add("take of no stock", Check.INDEX, x -> x.take(4, 1))
            .add("take of no pieces", Check.RANGE, x -> x.take(1, 0))
            .add("take of one too many", Check.MEANING, x -> x.take(1, 27))
            .add("take of far too many", Check.MEANING, x -> x.take(1, 1_000_000))
            .add("in of no stock", Check.INDEX, x -> x.in(4, 0))
            .add("in of no what", Check.INDEX, x -> x.in(1, 3))
            .add("rate of no money", Check.INDEX, x -> x.rate(3, 300, 1))
            .add("rate on no day", Check.RANGE, x -> x.rate(2, 366, 1))
            .add("rate of 0", Check.RANGE, x -> x.rate(2, 300, 0))
            .add("rate on the same day", Check.RANGE, x -> x.rate(2, 200, 1))
            .add("foreign of no money", Check.INDEX, x -> x.foreign(3, 300, 1))
            .add("foreign on no day", Check.RANGE, x -> x.foreign(2, 366, 1))
            .add("foreign of no units", Check.RANGE, x -> x.foreign(2, 300, -1))
            .add("foreign on the day before the first", Check.MEANING, x -> x.foreign(2, 99, 1))
            .add("piece of no order", Check.INDEX, x -> x.piece(8, 1))
            .add("piece of weight 0", Check.RANGE, x -> x.piece(1, 0))
            .add("opened of no piece", Check.INDEX, x -> x.opened(2))
            .ask();
    }

    private static void someReversed(ShopLedger x) {
        Setup.open(x);
        x.reverse(0, 2);
        Setup.close(x, 2);
    }

    private static long weigh(ShopLedger x, int order, int v) {
        x.weight(order, v);
        return 0;
    }

    private static void full() {
        new RefusedTest(Setup::full)
            .add("line 17", Check.TURN, x -> x.line(0, 0, 11, 1))
            .add("correct without room", Check.MEANING, x -> x.correct(0, 1, 0, 11, 1))
            .add("reverse in a closed month", Check.TURN, x -> x.reverse(0, 11))
            .add("close of month 12", Check.TURN, ShopLedger::close)
            .add("told of entry 200", Check.INDEX, x -> x.told(3, 200))
            .add("layer 13", Check.TURN, x -> x.stock(1, 1, 1))
            .add("rate 11", Check.TURN, x -> x.rate(1, 365, 1))
            .add("piece 11", Check.TURN, x -> x.piece(0, 1))
            .add("opened of piece 10", Check.INDEX, x -> x.opened(10))
            .ask();
        new RefusedTest(x -> Setup.corrections(x, 100))
            .add("reverse without room", Check.MEANING, x -> x.reverse(0, 11))
            .ask();
    }

    private static void put() {
        likeDrop("put of a closed month", Check.TURN, x -> {
            Setup.some(x);
            x.line(0, 0, 1, 9);
            x.line(0, 0, 2, -9);
        });
        likeDrop("put of lines that miss nothing by a cent", Check.MEANING, x -> {
            Setup.some(x);
            x.line(0, 0, 2, 1);
        });
        likeDrop("put without room", Check.MEANING, x -> {
            Setup.open(x);
            Setup.corrections(x, 97);
            x.line(0, 0, 2, 1);
            x.line(0, 0, 2, -1);
        });
        likeDrop("put of no lines", Check.MEANING, x -> {
            Setup.some(x);
            x.drop();
        });
        likeDrop("put of 16 lines when all is full", Check.TURN, Setup::full);
    }

    private static void likeDrop(String call, Class<? extends RuntimeException> kind, Consumer<ShopLedger> state) {
        ShopLedger x = new ShopLedger();
        state.accept(x);
        Check.refused(call, kind, x::put);
        Check.due("lines behind " + call, 0, x.many(2));
        String dropped = Telling.behind(y -> {
            state.accept(y);
            y.drop();
        });
        String refused = Telling.behind(y -> {
            state.accept(y);
            Check.refused(call, kind, y::put);
        });
        Check.same("the state behind " + call, dropped, refused);
    }

    private RefusedTest add(String call, Class<? extends RuntimeException> kind, ToLongFunction<ShopLedger> body) {
        refusals.add(new Refusal(call, kind, body));
        return this;
    }

    private void ask() {
        String before = Telling.behind(state);
        for (Refusal r : refusals) {
            Check.refusedUnchanged(r.call, r.kind, state, before, r.body);
        }
        String behindAll = Telling.behind(x -> {
            state.accept(x);
            for (Refusal r : refusals) {
                Check.refused(r.call + ", behind others", r.kind, () -> r.body.applyAsLong(x));
            }
        });
        Check.same("the state behind all of them", before, behindAll);
    }
}
