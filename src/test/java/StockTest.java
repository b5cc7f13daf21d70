/** Promises 12, 13 and 14: stock, take and in. */
public final class StockTest {
    public static void main(String[] args) {
        layersLeaveInOrder();
        stocksAreApart();
        Check.end("StockTest");
    }

    static void expectIn(ShopLedger x, int stock, long pieces, long worth, long layers) {
        Check.due("in(" + stock + ", 0)", pieces, x.in(stock, 0));
        Check.due("in(" + stock + ", 1)", worth, x.in(stock, 1));
        Check.due("in(" + stock + ", 2)", layers, x.in(stock, 2));
    }

    private static void layersLeaveInOrder() {
        ShopLedger x = new ShopLedger();
        Check.due("first layer", 1, x.stock(0, 10, 7));
        Check.due("second layer", 2, x.stock(0, 5, 3));
        Check.due("third layer", 3, x.stock(0, 5, 3));
        expectIn(x, 0, 20, 100, 3);
        Check.due("take of a part", 28, x.take(0, 4));
        expectIn(x, 0, 16, 72, 3);
        Check.due("take of the layer's rest", 42, x.take(0, 6));
        expectIn(x, 0, 10, 30, 2);
        Check.due("a layer behind", 3, x.stock(0, 1, 1_000));
        Check.due("take over three layers", 1_030, x.take(0, 11));
        expectIn(x, 0, 0, 0, 0);
        Check.due("a layer of no cost", 1, x.stock(0, 3, 0));
        Check.due("take of no cost", 0, x.take(0, 2));
        expectIn(x, 0, 1, 0, 1);
    }

    private static void stocksAreApart() {
        ShopLedger x = new ShopLedger();
        for (int stock = 0; stock < 4; stock++) {
            x.stock(stock, stock + 1, 10);
        }
        x.take(3, 4);
        for (int stock = 0; stock < 3; stock++) {
            expectIn(x, stock, stock + 1, 10 * (stock + 1), 1);
        }
        expectIn(x, 3, 0, 0, 0);
    }
}
