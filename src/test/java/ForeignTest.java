/** Promises 15 and 16: rate and foreign. */
public final class ForeignTest {
    public static void main(String[] args) {
        ratesByDay();
        rounding();
        largest();
        fullAndApart();
        rateRefused();
        foreignRefused();
        orderOfChecks();
        Check.end("ForeignTest");
    }

    private static void ratesByDay() {
        ShopLedger x = new ShopLedger();
        Check.due("first rate", 1, x.rate(0, 3, 10_000));
        Check.due("second rate", 2, x.rate(0, 4, 20_000));
        Check.due("third rate", 3, x.rate(0, 360, 5_000));
        Check.refused("the day before the first", Check.MEANING, () -> x.foreign(0, 2, 100));
        Check.refused("day 0", Check.MEANING, () -> x.foreign(0, 0, 100));
        Check.due("the first day", 100, x.foreign(0, 3, 100));
        Check.due("the second day", 200, x.foreign(0, 4, 100));
        Check.due("the day before the third", 200, x.foreign(0, 359, 100));
        Check.due("the third day", 50, x.foreign(0, 360, 100));
        Check.due("the last day", 50, x.foreign(0, 365, 100));
        Check.due("a rate of the last day", 4, x.rate(0, 365, 1));
        Check.due("the last day by its own", 1, x.foreign(0, 365, 10_000));
        Check.due("the day before it", 5_000, x.foreign(0, 364, 10_000));
    }

    private static void rounding() {
        ShopLedger x = new ShopLedger();
        x.rate(1, 0, 1);
        Check.due("no units", 0, x.foreign(1, 0, 0));
        Check.due("less than a half", 0, x.foreign(1, 0, 4_999));
        Check.due("a half", 1, x.foreign(1, 0, 5_000));
        Check.due("more than a half", 1, x.foreign(1, 0, 5_001));
        Check.due("less than one and a half", 1, x.foreign(1, 0, 14_999));
        Check.due("one and a half", 2, x.foreign(1, 0, 15_000));
        Check.due("two and a half", 3, x.foreign(1, 0, 25_000));
        x.rate(1, 1, 11_150);
        Check.due("12345 units", 13_765, x.foreign(1, 1, 12_345));
    }

    private static void largest() {
        ShopLedger x = new ShopLedger();
        x.rate(2, 0, 100_000_000);
        Check.due("the largest sum", 10_000_000_000_000L, x.foreign(2, 0, 1_000_000_000));
        Check.due("one unit less", 9_999_999_990_000L, x.foreign(2, 365, 999_999_999));
        x.rate(2, 365, 99_999_999);
        Check.due("one less of rate", 9_999_999_900_000L, x.foreign(2, 365, 1_000_000_000));
    }

    private static void fullAndApart() {
        ShopLedger x = new ShopLedger();
        for (int i = 1; i <= 10; i++) {
            Check.due("rate " + i, i, x.rate(1, 10 * i, 1_000 * i));
        }
        Check.refused("rate 11", Check.TURN, () -> x.rate(1, 200, 1));
        for (int i = 1; i <= 10; i++) {
            Check.due("rate " + i + " by day", 1_000 * i, x.foreign(1, 10 * i + 9, 10_000));
        }
        Check.due("rate of another money", 1, x.rate(0, 5, 7));
        Check.due("rate of another money", 1, x.rate(2, 0, 9));
        Check.due("foreign of another money", 7, x.foreign(0, 50, 10_000));
        Check.due("foreign of another money", 9, x.foreign(2, 50, 10_000));
    }

    private static void rateRefused() {
        int[] wrongMoneys = {3, -1, Integer.MAX_VALUE, Integer.MIN_VALUE};
        for (int money : wrongMoneys) {
            Check.refusedUnchanged("rate of no money", Check.INDEX, Setup::some, x -> x.rate(money, 300, 1));
        }
        int[] wrongDays = {-1, 366, 200, 199, 0, Integer.MAX_VALUE, Integer.MIN_VALUE};
        for (int day : wrongDays) {
            Check.refusedUnchanged("rate on day " + day, Check.RANGE, Setup::some, x -> x.rate(2, day, 1));
        }
        Check.refusedUnchanged("a first rate on day -1", Check.RANGE, Setup::some, x -> x.rate(0, -1, 1));
        Check.refusedUnchanged("a first rate on day 366", Check.RANGE, Setup::some, x -> x.rate(0, 366, 1));
        int[] wrongRates = {0, -1, 100_000_001, Integer.MAX_VALUE, Integer.MIN_VALUE};
        for (int v : wrongRates) {
            Check.refusedUnchanged("rate " + v, Check.RANGE, Setup::some, x -> x.rate(2, 201, v));
        }
        Check.refusedUnchanged("rate 11", Check.TURN, ForeignTest::fill, x -> x.rate(1, 365, 1));
    }

    private static void fill(ShopLedger x) {
        for (int i = 0; i < 10; i++) {
            x.rate(1, i, 10_000 + i);
        }
    }

    private static void foreignRefused() {
        int[] wrongMoneys = {3, -1, Integer.MAX_VALUE, Integer.MIN_VALUE};
        for (int money : wrongMoneys) {
            Check.refusedUnchanged("foreign of no money", Check.INDEX, Setup::some, x -> x.foreign(money, 300, 1));
        }
        int[] wrongDays = {-1, 366, Integer.MAX_VALUE, Integer.MIN_VALUE};
        for (int day : wrongDays) {
            Check.refusedUnchanged("foreign on day " + day, Check.RANGE, Setup::some, x -> x.foreign(2, day, 1));
        }
        int[] wrongUnits = {-1, 1_000_000_001, Integer.MAX_VALUE, Integer.MIN_VALUE};
        for (int units : wrongUnits) {
            Check.refusedUnchanged("foreign of " + units, Check.RANGE, Setup::some, x -> x.foreign(2, 300, units));
        }
        Check.refusedUnchanged("foreign before the first", Check.MEANING, Setup::some, x -> x.foreign(2, 99, 1));
        Check.refusedUnchanged("foreign of no rate", Check.MEANING, Setup::some, x -> x.foreign(0, 365, 0));
    }

    private static void orderOfChecks() {
        ShopLedger x = new ShopLedger();
        fill(x);
        Check.refused("rate: index before range", Check.INDEX, () -> x.rate(3, -1, 0));
        Check.refused("rate: turn before range", Check.TURN, () -> x.rate(1, 366, 1));
        Check.refused("rate: turn before range", Check.TURN, () -> x.rate(1, 300, 0));
        Check.refused("rate: turn before the day", Check.TURN, () -> x.rate(1, 0, 1));
        Check.refused("foreign: index before range", Check.INDEX, () -> x.foreign(3, -1, -1));
        Check.refused("foreign: range before meaning", Check.RANGE, () -> x.foreign(0, 366, 1));
        Check.refused("foreign: range before meaning", Check.RANGE, () -> x.foreign(0, 0, -1));
        Check.refused("foreign: meaning", Check.MEANING, () -> x.foreign(0, 0, 1));
    }
}
