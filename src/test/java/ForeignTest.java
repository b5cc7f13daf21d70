/** Promises 15 and 16: rate and foreign. */
public final class ForeignTest {
    public static void main(String[] args) {
        ratesByDay();
        moneysAreApart();
        Check.end("ForeignTest");
    }

    private static void ratesByDay() {
        ShopLedger x = new ShopLedger();
        Check.due("first rate", 1, x.rate(0, 3, 10_000));
        Check.due("second rate", 2, x.rate(0, 4, 20_000));
        Check.due("third rate", 3, x.rate(0, 360, 5_000));
        Check.refused("the day before the first", Check.MEANING, () -> x.foreign(0, 2, 100));
        Check.refused("day 0", Check.MEANING, () -> x.foreign(0, 0, 100));
        Check.due("the first day", 100, x.foreign(0, 3, 100));
        Check.due("the second day", 200, x.foreign(0, 4, 100));
        Check.due("the day before the third", 200, x.foreign(0, 359, 100));
        Check.due("the third day", 50, x.foreign(0, 360, 100));
        Check.due("the last day", 50, x.foreign(0, 365, 100));
        Check.due("a rate of the last day", 4, x.rate(0, 365, 1));
        Check.due("the last day by its own", 1, x.foreign(0, 365, 10_000));
        Check.due("the day before it", 5_000, x.foreign(0, 364, 10_000));
    }

    private static void moneysAreApart() {
        ShopLedger x = new ShopLedger();
        x.rate(0, 5, 7);
        x.rate(1, 1, 11_150);
        x.rate(2, 0, 9);
        Check.due("foreign of money 0", 7, x.foreign(0, 50, 10_000));
        Check.due("foreign of money 1", 13_765, x.foreign(1, 50, 12_345));
        Check.due("foreign of money 2", 9, x.foreign(2, 50, 10_000));
    }
}
