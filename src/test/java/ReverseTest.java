/** Promise 6: reverse. */
public final class ReverseTest {
    public static void main(String[] args) {
        entries();
        once();
        Check.end("ReverseTest");
    }

    private static void threeBatches(ShopLedger x) {
        x.line(1, 2, 3, 40);
        x.line(5, 6, 7, -30);
        x.line(1, 6, 9, -10);
        x.put();
        x.correct(3, 4, 5, 6, 77);
        x.line(0, 0, 0, 1_000_000_000);
        x.line(7, 7, 11, -1_000_000_000);
        x.put();
    }

    private static void entries() {
        ShopLedger x = new ShopLedger();
        threeBatches(x);
        Check.due("reverse(0, 8)", 3, x.reverse(0, 8));
        Check.due("reverse(2, 11)", 4, x.reverse(2, 11));
        Check.due("entries", 12, x.many(0));
        Check.due("batches", 5, x.many(1));
        long[][] want = {
            {-40, 1, 2, 8, 3}, {30, 5, 6, 8, 3}, {10, 1, 6, 8, 3},
            {-1_000_000_000, 0, 0, 11, 4}, {1_000_000_000, 7, 7, 11, 4},
        };
        for (int k = 0; k < want.length; k++) {
            for (int what = 3; what < 8; what++) {
                Check.due("told(" + what + ", " + (7 + k) + ")", want[k][what - 3], x.told(what, 7 + k));
            }
        }
        for (int account = 0; account < 8; account++) {
            int due = account == 3 ? -77 : account == 4 ? 77 : 0;
            Check.due("balance of account " + account, due, x.told(0, account));
        }
        Check.due("balance of the first month", 40, x.told(2, 3));
        Check.due("balance of the reversal's month", 0, x.told(2, 8));
        Check.due("the reversed entry stays", 40, x.told(3, 0));
    }

    private static void once() {
        ShopLedger x = new ShopLedger();
        threeBatches(x);
        x.reverse(1, 0);
        Check.refused("reverse again", Check.MEANING, () -> x.reverse(1, 0));
        Check.refused("reverse of a reversal", Check.MEANING, () -> x.reverse(3, 0));
        Check.due("reverse of another", 4, x.reverse(0, 0));
        Check.refused("reverse of a later reversal", Check.MEANING, () -> x.reverse(4, 0));
        Check.due("reverse of the last", 5, x.reverse(2, 0));
        Check.due("correct behind it", 6, x.correct(0, 1, 0, 0, 1));
        Check.due("reverse of that", 7, x.reverse(6, 0));
    }
}
