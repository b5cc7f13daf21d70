/** Promises 8 and 9: told and many. */
public final class ToldTest {
    public static void main(String[] args) {
        balances();
        largestBalance();
        toldIndexes();
        many();
        Check.end("ToldTest");
    }

    private static void balances() {
        ShopLedger x = new ShopLedger();
        x.line(0, 7, 0, 100);
        x.line(7, 0, 11, -60);
        x.line(3, 7, 11, -40);
        x.put();
        x.correct(3, 7, 4, 5, 9);
        long[][] want = {
            {100, 0, 0, -49, 0, 0, 0, -51},
            {-60, 0, 0, 0, 0, 0, 0, 60},
            {100, 0, 0, 0, 0, 0, 0, 0, 0, 0, 0, -100},
        };
        for (int what = 0; what < 3; what++) {
            for (int k = 0; k < want[what].length; k++) {
                Check.due("told(" + what + ", " + k + ")", want[what][k], x.told(what, k));
            }
        }
    }

    private static void largestBalance() {
        ShopLedger x = new ShopLedger();
        for (int i = 0; i < 100; i++) {
            x.correct(0, 1, 2, 3, 1_000_000_000);
        }
        Check.due("the largest balance", 100_000_000_000L, x.told(0, 1));
        Check.due("the smallest balance", -100_000_000_000L, x.told(0, 0));
        Check.due("the order's", 0, x.told(1, 2));
    }

    private static void toldIndexes() {
        int[][] wrong = {
            {0, 8}, {0, -1}, {1, 8}, {1, -1}, {2, 12}, {2, -1}, {8, 0}, {-1, 0}, {9, 0}, {8, -1},
            {3, 4}, {4, 4}, {5, 4}, {6, 4}, {7, 4}, {3, -1}, {7, -1}, {-1, -1},
            {Integer.MAX_VALUE, 0}, {Integer.MIN_VALUE, 0}, {0, Integer.MAX_VALUE}, {3, Integer.MIN_VALUE},
        };
        for (int[] w : wrong) {
            Check.refusedUnchanged("told(" + w[0] + ", " + w[1] + ")", Check.INDEX, Setup::some,
                x -> x.told(w[0], w[1]));
        }
        ShopLedger x = new ShopLedger();
        Setup.some(x);
        Check.due("told(3, 3)", 80, x.told(3, 3));
        Check.due("told(6, 0)", 1, x.told(6, 0));
    }

    private static void many() {
        ShopLedger x = new ShopLedger();
        Setup.some(x);
        int[] want = {4, 2, 3, 2, 2};
        for (int what = 0; what < 5; what++) {
            Check.due("many(" + what + ")", want[what], x.many(what));
        }
        x.reverse(0, 2);
        Check.due("entries behind reverse", 6, x.many(0));
        Check.due("batches behind reverse", 3, x.many(1));
        int[] wrong = {5, -1, 6, Integer.MAX_VALUE, Integer.MIN_VALUE};
        for (int what : wrong) {
            Check.refusedUnchanged("many(" + what + ")", Check.INDEX, Setup::some, y -> y.many(what));
        }
    }
}
