/** Promises 12, 13 and 14: stock, take and in. */
public final class StockTest {
    public static void main(String[] args) {
        layersLeaveInOrder();
        stocksAreApart();
        fullAndEmpty();
        largest();
        stockRefused();
        takeRefused();
        inRefused();
        orderOfChecks();
        Check.end("StockTest");
    }

    private static void expectIn(ShopLedger x, int stock, long pieces, long worth, long layers) {
        Check.due("in(" + stock + ", 0)", pieces, x.in(stock, 0));
        Check.due("in(" + stock + ", 1)", worth, x.in(stock, 1));
        Check.due("in(" + stock + ", 2)", layers, x.in(stock, 2));
    }

    private static void layersLeaveInOrder() {
        ShopLedger x = new ShopLedger();
        Check.due("first layer", 1, x.stock(0, 10, 7));
        Check.due("second layer", 2, x.stock(0, 5, 3));
        Check.due("third layer", 3, x.stock(0, 5, 3));
        expectIn(x, 0, 20, 100, 3);
        Check.due("take of a part", 28, x.take(0, 4));
        expectIn(x, 0, 16, 72, 3);
        Check.due("take of the layer's rest", 42, x.take(0, 6));
        expectIn(x, 0, 10, 30, 2);
        Check.due("a layer behind", 3, x.stock(0, 1, 1_000));
        Check.due("take over three layers", 1_030, x.take(0, 11));
        expectIn(x, 0, 0, 0, 0);
        Check.due("a layer of no cost", 1, x.stock(0, 3, 0));
        Check.due("take of no cost", 0, x.take(0, 2));
        expectIn(x, 0, 1, 0, 1);
    }

    private static void stocksAreApart() {
        ShopLedger x = new ShopLedger();
        for (int stock = 0; stock < 4; stock++) {
            x.stock(stock, stock + 1, 10);
        }
        x.take(3, 4);
        for (int stock = 0; stock < 3; stock++) {
            expectIn(x, stock, stock + 1, 10 * (stock + 1), 1);
        }
        expectIn(x, 3, 0, 0, 0);
    }

    private static void fullAndEmpty() {
        ShopLedger x = new ShopLedger();
        Check.refused("take from nothing", Check.MEANING, () -> x.take(2, 1));
        for (int i = 1; i <= 12; i++) {
            Check.due("layer " + i, i, x.stock(2, i, i));
        }
        Check.refused("layer 13", Check.TURN, () -> x.stock(2, 1, 1));
        expectIn(x, 2, 78, 650, 12);
        Check.due("take of no whole layer", 1 + 2, x.take(2, 2));
        Check.due("a layer in the gap", 12, x.stock(2, 100, 100));
        Check.refused("layer 13 again", Check.TURN, () -> x.stock(2, 1, 1));
        Check.refused("take of one too many", Check.MEANING, () -> x.take(2, 177));
        Check.due("take of all", 650 - 3 + 10_000, x.take(2, 176));
        expectIn(x, 2, 0, 0, 0);
        Check.refused("take from nothing again", Check.MEANING, () -> x.take(2, 1));
        for (int i = 1; i <= 12; i++) {
            Check.due("layer " + i + " again", i, x.stock(2, 1, 1));
        }
    }

    private static void largest() {
        ShopLedger x = new ShopLedger();
        for (int i = 0; i < 12; i++) {
            x.stock(3, 1_000_000, 1_000_000);
        }
        expectIn(x, 3, 12_000_000, 12_000_000_000_000L, 12);
        Check.due("the largest take", 1_000_000_000_000L, x.take(3, 1_000_000));
        expectIn(x, 3, 11_000_000, 11_000_000_000_000L, 11);
        x.take(3, 1);
        Check.due("the largest take over two layers", 1_000_000_000_000L, x.take(3, 1_000_000));
        expectIn(x, 3, 9_999_999, 9_999_999_000_000L, 10);
    }

    private static void stockRefused() {
        int[] wrongStocks = {4, -1, Integer.MAX_VALUE, Integer.MIN_VALUE};
        for (int stock : wrongStocks) {
            Check.refusedUnchanged("stock of no stock", Check.INDEX, Setup::some, x -> x.stock(stock, 1, 1));
        }
        int[] wrongPieces = {0, -1, 1_000_001, Integer.MAX_VALUE, Integer.MIN_VALUE};
        for (int pieces : wrongPieces) {
            Check.refusedUnchanged("stock of " + pieces, Check.RANGE, Setup::some, x -> x.stock(1, pieces, 1));
        }
        int[] wrongCents = {-1, 1_000_001, Integer.MAX_VALUE, Integer.MIN_VALUE};
        for (int cents : wrongCents) {
            Check.refusedUnchanged("stock at " + cents, Check.RANGE, Setup::some, x -> x.stock(1, 1, cents));
        }
        Check.refusedUnchanged("layer 13", Check.TURN, StockTest::fill, x -> x.stock(1, 1, 1));
    }

    private static void fill(ShopLedger x) {
        for (int i = 1; i <= 12; i++) {
            x.stock(1, i, 13 - i);
        }
    }

    private static void takeRefused() {
        int[] wrongStocks = {4, -1, Integer.MAX_VALUE, Integer.MIN_VALUE};
        for (int stock : wrongStocks) {
            Check.refusedUnchanged("take of no stock", Check.INDEX, Setup::some, x -> x.take(stock, 1));
        }
        int[] wrongPieces = {0, -1, 1_000_001, Integer.MAX_VALUE, Integer.MIN_VALUE};
        for (int pieces : wrongPieces) {
            Check.refusedUnchanged("take of " + pieces, Check.RANGE, Setup::some, x -> x.take(1, pieces));
        }
        Check.refusedUnchanged("take of one too many", Check.MEANING, Setup::some, x -> x.take(1, 27));
        Check.refusedUnchanged("take of many too many", Check.MEANING, Setup::some, x -> x.take(1, 1_000_000));
    }

    private static void inRefused() {
        int[][] wrong = {{4, 0}, {-1, 0}, {0, 3}, {0, -1}, {4, 3}, {Integer.MAX_VALUE, 0}, {0, Integer.MIN_VALUE}};
        for (int[] w : wrong) {
            Check.refusedUnchanged("in(" + w[0] + ", " + w[1] + ")", Check.INDEX, Setup::some, x -> x.in(w[0], w[1]));
        }
    }

    private static void orderOfChecks() {
        ShopLedger x = new ShopLedger();
        fill(x);
        Check.refused("stock: index before range", Check.INDEX, () -> x.stock(4, 0, -1));
        Check.refused("stock: turn before range", Check.TURN, () -> x.stock(1, 0, 1));
        Check.refused("stock: turn before range", Check.TURN, () -> x.stock(1, 1, -1));
        Check.refused("stock: range in another", Check.RANGE, () -> x.stock(2, 0, 1));
        Check.refused("take: index before range", Check.INDEX, () -> x.take(4, 0));
        Check.refused("take: range before meaning", Check.RANGE, () -> x.take(1, 1_000_001));
        Check.refused("take: meaning", Check.MEANING, () -> x.take(1, 79));
    }
}
