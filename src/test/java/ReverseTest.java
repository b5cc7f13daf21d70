/** Promise 6: reverse. */
public final class ReverseTest {
    public static void main(String[] args) {
        entries();
        ofCorrection();
        once();
        linesStay();
        refused();
        orderOfChecks();
        room();
        Check.end("ReverseTest");
    }

    private static void threeBatches(ShopLedger x) {
        x.line(1, 2, 3, 40);
        x.line(5, 6, 7, -30);
        x.line(1, 6, 9, -10);
        x.put();
        x.correct(3, 4, 5, 6, 77);
        x.line(0, 0, 0, 1_000_000_000);
        x.line(7, 7, 11, -1_000_000_000);
        x.put();
    }

    private static void entries() {
        ShopLedger x = new ShopLedger();
        threeBatches(x);
        Check.due("reverse(0, 8)", 3, x.reverse(0, 8));
        Check.due("reverse(2, 11)", 4, x.reverse(2, 11));
        Check.due("entries", 12, x.many(0));
        Check.due("batches", 5, x.many(1));
        long[][] want = {
            {-40, 1, 2, 8, 3}, {30, 5, 6, 8, 3}, {10, 1, 6, 8, 3},
            {-1_000_000_000, 0, 0, 11, 4}, {1_000_000_000, 7, 7, 11, 4},
        };
        for (int k = 0; k < want.length; k++) {
            for (int what = 3; what < 8; what++) {
                Check.due("told(" + what + ", " + (7 + k) + ")", want[k][what - 3], x.told(what, 7 + k));
            }
        }
        for (int account = 0; account < 8; account++) {
            int due = account == 3 ? -77 : account == 4 ? 77 : 0;
            Check.due("balance of account " + account, due, x.told(0, account));
        }
        Check.due("balance of the first month", 40, x.told(2, 3));
        Check.due("balance of the reversal's month", 0, x.told(2, 8));
        Check.due("the reversed entry stays", 40, x.told(3, 0));
    }

    private static void ofCorrection() {
        ShopLedger x = new ShopLedger();
        x.close();
        x.correct(3, 4, 5, 0, 77);
        Check.refused("reverse in the latest closed month", Check.TURN, () -> x.reverse(0, 0));
        Check.due("reverse in the first open month", 1, x.reverse(0, 1));
        Check.due("the turned entry", 77, x.told(3, 2));
        Check.due("its account", 3, x.told(4, 2));
        Check.due("the other turned entry", -77, x.told(3, 3));
    }

    private static void once() {
        ShopLedger x = new ShopLedger();
        threeBatches(x);
        x.reverse(1, 0);
        Check.refused("reverse again", Check.MEANING, () -> x.reverse(1, 0));
        Check.refused("reverse of a reversal", Check.MEANING, () -> x.reverse(3, 0));
        Check.due("reverse of another", 4, x.reverse(0, 0));
        Check.refused("reverse of a later reversal", Check.MEANING, () -> x.reverse(4, 0));
        Check.due("reverse of the last", 5, x.reverse(2, 0));
        Check.due("correct behind it", 6, x.correct(0, 1, 0, 0, 1));
        Check.due("reverse of that", 7, x.reverse(6, 0));
    }

    private static void linesStay() {
        ShopLedger x = new ShopLedger();
        threeBatches(x);
        x.line(2, 2, 2, 6);
        x.line(3, 3, 3, -6);
        x.reverse(0, 0);
        Check.due("lines behind reverse", 2, x.many(2));
        Check.due("put behind reverse", 4, x.put());
    }

    private static void refused() {
        int[][] wrongIndexes = {{2, 5}, {-1, 5}, {0, 12}, {0, -1}, {Integer.MAX_VALUE, 5}, {0, Integer.MIN_VALUE}};
        for (int[] w : wrongIndexes) {
            Check.refusedUnchanged("reverse of no such index", Check.INDEX, Setup::some, x -> x.reverse(w[0], w[1]));
        }
        Check.refusedUnchanged("reverse in a closed month", Check.TURN, Setup::some, x -> x.reverse(0, 0));
        Check.refusedUnchanged("reverse in the latest closed month", Check.TURN, Setup::some, x -> x.reverse(0, 1));
        Check.refusedUnchanged("reverse again", Check.MEANING, ReverseTest::reversed, x -> x.reverse(0, 5));
        Check.refusedUnchanged("reverse of a reversal", Check.MEANING, ReverseTest::reversed, x -> x.reverse(2, 5));
        Check.refusedUnchanged("reverse without room", Check.MEANING, x -> Setup.corrections(x, 100),
            x -> x.reverse(0, 5));
    }

    private static void reversed(ShopLedger x) {
        Setup.some(x);
        x.reverse(0, 2);
    }

    private static void orderOfChecks() {
        ShopLedger x = new ShopLedger();
        reversed(x);
        Check.refused("index before turn", Check.INDEX, () -> x.reverse(3, 0));
        Check.refused("turn before meaning", Check.TURN, () -> x.reverse(0, 1));
        Setup.close(x, 10);
        Check.refused("reverse when all are closed", Check.TURN, () -> x.reverse(1, 11));
        Check.refused("index when all are closed", Check.INDEX, () -> x.reverse(1, 12));
    }

    private static void room() {
        ShopLedger x = new ShopLedger();
        Setup.lines(x, 8);
        x.put();
        Setup.corrections(x, 85);
        Check.due("entries", 186, x.many(0));
        Check.refused("reverse of 16 where 14 have room", Check.MEANING, () -> x.reverse(0, 0));
        Check.due("entries", 186, x.many(0));
        Check.due("reverse of two", 86, x.reverse(1, 0));
        ShopLedger y = new ShopLedger();
        Setup.lines(y, 8);
        y.put();
        Setup.corrections(y, 84);
        Check.due("reverse of 16 where 16 have room", 85, y.reverse(0, 0));
        Check.due("entries", 200, y.many(0));
        Check.due("the last entry's sum", 8, y.told(3, 199));
        Check.refused("reverse when full", Check.MEANING, () -> y.reverse(1, 0));
        roomForAllButOne();
    }

    private static void roomForAllButOne() {
        ShopLedger x = new ShopLedger();
        for (int batch = 0; batch < 2; batch++) {
            x.line(0, 0, 0, 2);
            x.line(1, 0, 0, -1);
            x.line(2, 0, 0, -1);
            x.put();
        }
        Setup.corrections(x, 96);
        Check.due("entries", 198, x.many(0));
        Check.refused("reverse of three where two have room", Check.MEANING, () -> x.reverse(0, 0));
        Check.refused("reverse of three where two have room", Check.MEANING, () -> x.reverse(1, 0));
        Check.due("entries", 198, x.many(0));
        Check.due("reverse of two where two have room", 98, x.reverse(97, 0));
        Check.due("entries", 200, x.many(0));
    }
}
