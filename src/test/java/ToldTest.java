/** Promises 8 and 9: told and many. */
public final class ToldTest {
    public static void main(String[] args) {
        balances();
        many();
        Check.end("ToldTest");
    }

    private static void balances() {
        ShopLedger x = new ShopLedger();
        x.line(0, 7, 0, 100);
        x.line(7, 0, 11, -60);
        x.line(3, 7, 11, -40);
        x.put();
        x.correct(3, 7, 4, 5, 9);
        long[][] want = {
            {100, 0, 0, -49, 0, 0, 0, -51},
            {-60, 0, 0, 0, 0, 0, 0, 60},
            {100, 0, 0, 0, 0, 0, 0, 0, 0, 0, 0, -100},
        };
        for (int what = 0; what < 3; what++) {
            for (int k = 0; k < want[what].length; k++) {
                Check.due("told(" + what + ", " + k + ")", want[what][k], x.told(what, k));
            }
        }
    }

    private static void many() {
        ShopLedger x = new ShopLedger();
        Setup.some(x);
        int[] want = {4, 2, 3, 2, 2};
        for (int what = 0; what < 5; what++) {
            Check.due("many(" + what + ")", want[what], x.many(what));
        }
        x.reverse(0, 2);
        Check.due("entries behind reverse", 6, x.many(0));
        Check.due("batches behind reverse", 3, x.many(1));
    }
}
