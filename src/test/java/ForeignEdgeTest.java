import java.math.BigInteger;

/** Promises 15 and 16: each boundary case of rate and foreign has a test of its own. */
public final class ForeignEdgeTest {
    public static void main(String[] args) {
        Check.sentence("rate, index: no such money", ForeignEdgeTest::rateIndex);
        Check.sentence("rate, turn: there are 10", ForeignEdgeTest::ten);
        Check.sentence("RATES (at most 10 each): each money has its own", ForeignEdgeTest::tenEach);
        Check.sentence("rate, range: day (0 .. 365)", ForeignEdgeTest::dayRange);
        Check.sentence("rate, range: rate (1 .. 100,000,000)", ForeignEdgeTest::valueRange);
        Check.sentence("rate, range: the day does not rise, the same day and the one before",
            ForeignEdgeTest::dayRises);
        Check.sentence("rate, range: behind day 365 none rises", ForeignEdgeTest::behindTheLastDay);
        Check.sentence("a refused rate is none: the days rise from the ones that were taken",
            ForeignEdgeTest::refusedIsNone);
        Check.sentence("A rate: how many that money has", ForeignEdgeTest::howMany);
        Check.sentence("foreign, index: no such money", ForeignEdgeTest::foreignIndex);
        Check.sentence("foreign, range: day (0 .. 365)", ForeignEdgeTest::foreignDayRange);
        Check.sentence("foreign, range: units (0 .. 1,000,000,000)", ForeignEdgeTest::unitsRange);
        Check.sentence("foreign, meaning: it has no rate yet on that day", ForeignEdgeTest::noRateYet);
        Check.sentence("foreign, meaning: it has no rate at all", ForeignEdgeTest::noRateAtAll);
        Check.sentence("The rate of a day is that of the latest day not behind it", ForeignEdgeTest::latestDay);
        Check.sentence("rounded to the nearest (a half up)", ForeignEdgeTest::half);
        Check.sentence("no units are no cents", ForeignEdgeTest::noUnits);
        Check.sentence("the most units by the largest rate", ForeignEdgeTest::largest);
        Check.end("ForeignEdgeTest");
    }

    private static void rateIndex() {
        Edges.index("rate of money", 3, Setup::some, (x, v) -> x.rate(v, 300, 1));
    }

    private static void ten() {
        ShopLedger x = new ShopLedger();
        for (int i = 1; i <= 10; i++) {
            Check.due("rate " + i, i, x.rate(2, i, i));
        }
        Check.refused("rate 11", Check.TURN, () -> x.rate(2, 11, 11));
        Check.refused("rate 11 on the last day", Check.TURN, () -> x.rate(2, 365, 100_000_000));
        Check.due("foreign by rate 10", 10, x.foreign(2, 365, 10_000));
        Check.refusedUnchanged("rate 11", Check.TURN, y -> Setup.rates(y, 1), y -> y.rate(1, 365, 7));
    }

    private static void tenEach() {
        ShopLedger x = new ShopLedger();
        for (int i = 0; i < 10; i++) {
            for (int money = 0; money < 3; money++) {
                Check.due("rate of money " + money, i + 1, x.rate(money, 30 * i + money, 100 * (money + 1) + i));
            }
        }
        for (int money = 0; money < 3; money++) {
            int m = money;
            Check.refused("rate 11 of money " + money, Check.TURN, () -> x.rate(m, 365, 1));
            for (int i = 0; i < 10; i++) {
                Check.due("its rate " + i, 100 * (money + 1) + i, x.foreign(money, 30 * i + money, 10_000));
            }
        }
    }

    private static void dayRange() {
        Edges.range("a first rate on day", 0, 365, Setup::some, (x, v) -> x.rate(0, v, 1));
        Edges.refused("a later rate on day", Check.RANGE, Setup::some, (x, v) -> x.rate(2, v, 1),
            -1, 366, Integer.MIN_VALUE, Integer.MAX_VALUE);
    }

    private static void valueRange() {
        Edges.range("rate", 1, 100_000_000, Setup::some, (x, v) -> x.rate(2, 300, v));
        Edges.refused("rate", Check.RANGE, Setup::some, (x, v) -> x.rate(2, 300, v), -1, -100_000_000);
    }

    private static void dayRises() {
        Edges.taken("rate on day", Setup::some, (x, v) -> x.rate(2, v, 1), 201, 365);
        Edges.refused("rate on day", Check.RANGE, Setup::some, (x, v) -> x.rate(2, v, 1), 0, 100, 150, 199, 200);
        ShopLedger x = new ShopLedger();
        x.rate(0, 0, 1);
        Check.refused("a second rate on day 0", Check.RANGE, () -> x.rate(0, 0, 2));
        Check.due("a second rate on day 1", 2, x.rate(0, 1, 2));
        Check.refused("a third rate on day 1", Check.RANGE, () -> x.rate(0, 1, 2));
        Check.refused("a third rate on day 0", Check.RANGE, () -> x.rate(0, 0, 2));
        Check.due("a rate of another money on day 0", 1, x.rate(1, 0, 2));
    }

    private static void behindTheLastDay() {
        Edges.refused("rate behind day 365, on day", Check.RANGE, x -> x.rate(0, 365, 9),
            (x, v) -> x.rate(0, v, 1), 0, 364, 365, 366);
        ShopLedger x = new ShopLedger();
        x.rate(0, 364, 8);
        Check.due("rate on the last day", 2, x.rate(0, 365, 9));
        Check.due("the day before", 8, x.foreign(0, 364, 10_000));
        Check.due("the last day", 9, x.foreign(0, 365, 10_000));
    }

    private static void refusedIsNone() {
        ShopLedger x = new ShopLedger();
        x.rate(0, 10, 5);
        Check.refused("a rate too large on day 300", Check.RANGE, () -> x.rate(0, 300, 100_000_001));
        Check.refused("a rate on day 366", Check.RANGE, () -> x.rate(0, 366, 1));
        Check.due("a rate on day 11", 2, x.rate(0, 11, 6));
        Check.due("foreign on day 365", 6, x.foreign(0, 365, 10_000));
    }

    private static void howMany() {
        ShopLedger x = new ShopLedger();
        for (int i = 1; i <= 10; i++) {
            int day = i;
            Check.due("rate", i, x.rate(1, day, 1));
            Check.refused("a rate that is refused", i == 10 ? Check.TURN : Check.RANGE, () -> x.rate(1, day, 1));
        }
    }

    private static void foreignIndex() {
        Edges.index("foreign of money", 3, x -> {
            Setup.some(x);
            x.rate(0, 0, 1);
            x.rate(1, 0, 1);
        }, (x, v) -> x.foreign(v, 200, 1));
    }

    private static void foreignDayRange() {
        Edges.range("foreign on day", 0, 365, x -> x.rate(1, 0, 5), (x, v) -> x.foreign(1, v, 1));
        Edges.refused("foreign by no rate on day", Check.RANGE, Setup::some, (x, v) -> x.foreign(0, v, 1), -1, 366);
    }

    private static void unitsRange() {
        Edges.range("foreign of units", 0, 1_000_000_000, Setup::some, (x, v) -> x.foreign(2, 200, v));
        Edges.refused("foreign by no rate of units", Check.RANGE, Setup::some,
            (x, v) -> x.foreign(0, 200, v), -1, 1_000_000_001);
    }

    private static void noRateYet() {
        Edges.refused("foreign on day", Check.MEANING, Setup::some, (x, v) -> x.foreign(2, v, 1), 0, 98, 99);
        Edges.taken("foreign on day", Setup::some, (x, v) -> x.foreign(2, v, 1), 100, 101, 365);
        ShopLedger x = new ShopLedger();
        x.rate(0, 365, 7);
        Check.refused("foreign on day 364", Check.MEANING, () -> x.foreign(0, 364, 0));
        Check.due("foreign on day 365", 7, x.foreign(0, 365, 10_000));
        x.rate(1, 0, 7);
        Check.due("foreign on day 0", 7, x.foreign(1, 0, 10_000));
    }

    private static void noRateAtAll() {
        Edges.refused("foreign by no rate on day", Check.MEANING, Setup::some,
            (x, v) -> x.foreign(0, v, 0), 0, 200, 365);
        Edges.refused("foreign by no rate of units", Check.MEANING, Setup::some,
            (x, v) -> x.foreign(1, 365, v), 0, 1, 1_000_000_000);
    }

    private static void latestDay() {
        ShopLedger x = new ShopLedger();
        Setup.rates(x, 1);
        for (int day = 0; day <= 365; day++) {
            int latest = Math.min(day / 10, 9);
            Check.due("rate of day " + day, 10_000 + latest, x.foreign(1, day, 10_000));
        }
    }

    private static void half() {
        long[][] rateUnitsCents = {
            {1, 4_999, 0}, {1, 5_000, 1}, {1, 5_001, 1}, {1, 9_999, 1}, {1, 10_000, 1}, {1, 10_001, 1},
            {1, 14_999, 1}, {1, 15_000, 2}, {1, 24_999, 2}, {1, 25_000, 3}, {1, 1, 0},
            {4_999, 1, 0}, {5_000, 1, 1}, {5_001, 1, 1}, {9_999, 1, 1}, {15_000, 1, 2}, {14_999, 1, 1},
            {5_000, 3, 2}, {2_500, 2, 1}, {2_500, 6, 2}, {2_499, 2, 0}, {100_000_000, 1, 10_000},
            {5_000, 999_999_999, 500_000_000}, {4_999, 999_999_999, 499_900_000}, {1, 999_999_999, 100_000},
            {1, 999_995_000, 100_000}, {1, 999_994_999, 99_999},
            {99_999_999, 999_995_000, 9_999_949_900_001L}, {99_999_999, 999_995_001, 9_999_949_910_000L},
        };
        for (long[] row : rateUnitsCents) {
            ShopLedger x = new ShopLedger();
            x.rate(0, 0, (int) row[0]);
            Check.due(row[1] + " units at " + row[0], row[2], x.foreign(0, 0, (int) row[1]));
        }
    }

    private static void noUnits() {
        int[] rates = {1, 9_999, 100_000_000};
        for (int rate : rates) {
            ShopLedger x = new ShopLedger();
            x.rate(0, 0, rate);
            Check.due("no units at " + rate, 0, x.foreign(0, 0, 0));
        }
    }

    /** 10^17 before it is divided: far above what 32 bits hold, or a double to the unit. */
    private static void largest() {
        int[] rates = {100_000_000, 99_999_999, 99_999_989, 1};
        int[] manyUnits = {1_000_000_000, 999_999_999, 999_999_937, 1};
        for (int rate : rates) {
            ShopLedger x = new ShopLedger();
            x.rate(2, 365, rate);
            for (int units : manyUnits) {
                long want = BigInteger.valueOf(units).multiply(BigInteger.valueOf(rate))
                    .add(BigInteger.valueOf(5_000)).divide(BigInteger.valueOf(10_000)).longValueExact();
                Check.due(units + " units at " + rate, want, x.foreign(2, 365, units));
            }
        }
        ShopLedger x = new ShopLedger();
        x.rate(2, 0, 100_000_000);
        Check.due("the largest of all", 10_000_000_000_000L, x.foreign(2, 0, 1_000_000_000));
    }
}
