/** Promises 5 and 7: correct and close. */
public final class CorrectTest {
    public static void main(String[] args) {
        entries();
        months();
        close();
        Check.end("CorrectTest");
    }

    private static void entries() {
        ShopLedger x = new ShopLedger();
        Check.due("correct", 0, x.correct(7, 0, 5, 3, 1_000_000_000));
        Check.due("correct", 1, x.correct(0, 7, 0, 11, 1));
        long[][] want = {
            {-1_000_000_000, 7, 5, 3, 0}, {1_000_000_000, 0, 5, 3, 0}, {-1, 0, 0, 11, 1}, {1, 7, 0, 11, 1},
        };
        for (int k = 0; k < want.length; k++) {
            for (int what = 3; what < 8; what++) {
                Check.due("told(" + what + ", " + k + ")", want[k][what - 3], x.told(what, k));
            }
        }
        Check.due("balance of from", -999_999_999, x.told(0, 7));
        Check.due("balance of to", 999_999_999, x.told(0, 0));
        Check.due("balance of the order", 0, x.told(1, 5));
        Check.due("balance of the month", 0, x.told(2, 3));
        Check.due("batches", 2, x.many(1));
    }

    private static void months() {
        ShopLedger x = new ShopLedger();
        Setup.close(x, 3);
        Check.refused("correct of month 0", Check.TURN, () -> x.correct(0, 1, 0, 0, 1));
        Check.refused("correct of month 1", Check.TURN, () -> x.correct(0, 1, 0, 1, 1));
        Check.due("correct of the latest closed", 0, x.correct(0, 1, 0, 2, 1));
        Check.due("correct of the first open", 1, x.correct(0, 1, 0, 3, 1));
        Check.due("correct of the last", 2, x.correct(0, 1, 0, 11, 1));
        Setup.close(x, 9);
        Check.refused("correct of month 10 of 12", Check.TURN, () -> x.correct(0, 1, 0, 10, 1));
        Check.due("correct of month 11 of 12", 3, x.correct(0, 1, 0, 11, 1));
    }

    private static void close() {
        ShopLedger x = new ShopLedger();
        Setup.lines(x, 2);
        Check.due("first close", 0, x.close());
        Check.due("second close", 1, x.close());
        Check.due("closed months", 2, x.many(3));
        Check.due("lines behind close", 4, x.many(2));
    }
}
