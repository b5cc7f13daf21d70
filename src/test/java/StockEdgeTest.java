/** Promises 12, 13 and 14: each boundary case of stock, take and in has a test of its own. */
public final class StockEdgeTest {
    public static void main(String[] args) {
        Check.sentence("stock, index: no such stock", StockEdgeTest::stockIndex);
        Check.sentence("stock, turn: there are 12", StockEdgeTest::twelve);
        Check.sentence("LAYERS (at most 12 each): each stock has its own", StockEdgeTest::twelveEach);
        Check.sentence("stock, range: pieces (1 .. 1,000,000)", StockEdgeTest::piecesRange);
        Check.sentence("stock, range: cents (0 .. 1,000,000)", StockEdgeTest::centsRange);
        Check.sentence("A layer comes to a stock: how many it has", StockEdgeTest::howMany);
        Check.sentence("take, index: no such stock", StockEdgeTest::takeIndex);
        Check.sentence("take, range: pieces (1 .. 1,000,000)", StockEdgeTest::takeRange);
        Check.sentence("take, meaning: there are not so many, by one", StockEdgeTest::notSoMany);
        Check.sentence("take, meaning: there are not so many, of none", StockEdgeTest::ofNone);
        Check.sentence("from the layer that came first: a layer less one, a layer, a layer and one",
            StockEdgeTest::aroundLayer);
        Check.sentence("a layer that is emptied leaves its place to another", StockEdgeTest::emptiedLayer);
        Check.sentence("a layer of which one piece is left stays", StockEdgeTest::onePieceLeft);
        Check.sentence("taking over all 12 layers at once", StockEdgeTest::overAllLayers);
        Check.sentence("layers leave in order through many fillings and emptyings", StockEdgeTest::roundAndRound);
        Check.sentence("the largest stock, the largest take", StockEdgeTest::largest);
        Check.sentence("pieces at a cost of 0", StockEdgeTest::noCost);
        Check.sentence("in, index: no such stock", StockEdgeTest::inStockIndex);
        Check.sentence("in, index: no such what", StockEdgeTest::inWhatIndex);
        Check.end("StockEdgeTest");
    }

    private static void stockIndex() {
        Edges.index("stock", 4, Setup::some, (x, v) -> x.stock(v, 1, 1));
    }

    private static void twelve() {
        ShopLedger x = new ShopLedger();
        for (int i = 1; i <= 12; i++) {
            Check.due("layer " + i, i, x.stock(3, 1, 1));
        }
        Check.refused("layer 13", Check.TURN, () -> x.stock(3, 1, 1));
        Check.refused("layer 13 again", Check.TURN, () -> x.stock(3, 1_000_000, 1_000_000));
        StockTest.expectIn(x, 3, 12, 12, 12);
        Check.refusedUnchanged("layer 13", Check.TURN, y -> Setup.layers(y, 1), y -> y.stock(1, 7, 7));
    }

    private static void twelveEach() {
        ShopLedger x = new ShopLedger();
        for (int stock = 0; stock < 4; stock++) {
            for (int i = 1; i <= 12; i++) {
                Check.due("layer " + i + " of stock " + stock, i, x.stock(stock, 1 + stock, i));
            }
        }
        for (int stock = 0; stock < 4; stock++) {
            int s = stock;
            Check.refused("layer 13 of stock " + stock, Check.TURN, () -> x.stock(s, 1, 1));
            StockTest.expectIn(x, stock, 12 * (1 + stock), 78 * (1 + stock), 12);
        }
        Check.due("take from stock 2", 3, x.take(2, 3));
        Check.due("a layer to stock 2", 12, x.stock(2, 1, 1));
        Check.refused("a layer to stock 1", Check.TURN, () -> x.stock(1, 1, 1));
    }

    private static void piecesRange() {
        Edges.range("stock of pieces", 1, 1_000_000, Setup::some, (x, v) -> x.stock(1, v, 1));
        Edges.refused("stock of pieces", Check.RANGE, Setup::some, (x, v) -> x.stock(1, v, 1), -1, -1_000_000);
    }

    private static void centsRange() {
        Edges.range("stock at cents", 0, 1_000_000, Setup::some, (x, v) -> x.stock(1, 1, v));
    }

    private static void howMany() {
        ShopLedger x = new ShopLedger();
        Check.due("the first layer", 1, x.stock(0, 2, 1));
        Check.due("the second layer", 2, x.stock(0, 2, 1));
        x.take(0, 1);
        Check.due("behind a part of the first", 3, x.stock(0, 2, 1));
        x.take(0, 1);
        Check.due("behind all of the first", 3, x.stock(0, 2, 1));
        x.take(0, 6);
        Check.due("behind all", 1, x.stock(0, 2, 1));
    }

    private static void takeIndex() {
        Edges.index("take from stock", 4, x -> {
            Setup.some(x);
            for (int stock = 0; stock < 4; stock++) {
                x.stock(stock, 5, 5);
            }
        }, (x, v) -> x.take(v, 1));
    }

    private static void takeRange() {
        Edges.range("take of", 1, 1_000_000, x -> {
            x.stock(1, 1_000_000, 3);
            x.stock(1, 1_000_000, 4);
        }, (x, v) -> x.take(1, v));
        Edges.refused("take of", Check.RANGE, Setup::some, (x, v) -> x.take(1, v), 0, -1, 1_000_001);
    }

    private static void notSoMany() {
        int[] pieces = {1, 2, 999_999};
        for (int number : pieces) {
            ShopLedger x = new ShopLedger();
            x.stock(0, number, 2);
            Check.refused("take of " + (number + 1), Check.MEANING, () -> x.take(0, number + 1));
            Check.due("take of " + number, 2 * number, x.take(0, number));
        }
        Edges.refused("take of", Check.MEANING, y -> Setup.layers(y, 1), (y, v) -> y.take(1, v), 79, 80, 1_000_000);
        Edges.taken("take of", y -> Setup.layers(y, 1), (y, v) -> y.take(1, v), 77, 78);
    }

    private static void ofNone() {
        Edges.refused("take from nothing of", Check.MEANING, Setup::some, (x, v) -> x.take(0, v), 1, 1_000_000);
        ShopLedger x = new ShopLedger();
        x.stock(2, 3, 3);
        x.take(2, 3);
        Check.refused("take from an emptied stock", Check.MEANING, () -> x.take(2, 1));
        StockTest.expectIn(x, 2, 0, 0, 0);
    }

    /** Ten pieces at 7 cents came first, then five at 3, then four at 1,000. */
    private static void aroundLayer() {
        long[][] takenCostAndWhatIsLeft = {
            {1, 7, 18, 4_078, 3}, {9, 63, 10, 4_022, 3}, {10, 70, 9, 4_015, 2}, {11, 73, 8, 4_012, 2},
            {14, 82, 5, 4_003, 2}, {15, 85, 4, 4_000, 1}, {16, 1_085, 3, 3_000, 1}, {18, 3_085, 1, 1_000, 1},
            {19, 4_085, 0, 0, 0},
        };
        for (long[] row : takenCostAndWhatIsLeft) {
            ShopLedger x = new ShopLedger();
            x.stock(1, 10, 7);
            x.stock(1, 5, 3);
            x.stock(1, 4, 1_000);
            Check.due("take of " + row[0], row[1], x.take(1, (int) row[0]));
            StockTest.expectIn(x, 1, row[2], row[3], row[4]);
        }
    }

    private static void emptiedLayer() {
        ShopLedger x = new ShopLedger();
        Setup.layers(x, 1);
        Check.due("take of the first layer", 12, x.take(1, 1));
        StockTest.expectIn(x, 1, 77, 352, 11);
        Check.due("a layer in its place", 12, x.stock(1, 1, 500));
        Check.refused("layer 13", Check.TURN, () -> x.stock(1, 1, 1));
        Check.due("take of the next two layers", 2 * 11 + 3 * 10, x.take(1, 5));
        Check.due("a layer", 11, x.stock(1, 1, 1));
        Check.due("a layer", 12, x.stock(1, 1, 1));
        Check.refused("layer 13 again", Check.TURN, () -> x.stock(1, 1, 1));
    }

    private static void onePieceLeft() {
        ShopLedger x = new ShopLedger();
        x.stock(0, 1_000_000, 9);
        for (int i = 0; i < 11; i++) {
            x.stock(0, 1, 5);
        }
        Check.due("take of all but one of the first", 999_999 * 9, x.take(0, 999_999));
        StockTest.expectIn(x, 0, 12, 64, 12);
        Check.refused("layer 13", Check.TURN, () -> x.stock(0, 1, 1));
        Check.due("take of the one and the next", 14, x.take(0, 2));
        Check.due("a layer behind", 11, x.stock(0, 1, 1));
    }

    private static void overAllLayers() {
        ShopLedger x = new ShopLedger();
        Setup.layers(x, 3);
        StockTest.expectIn(x, 3, 78, 364, 12);
        Check.due("take of all but one", 363, x.take(3, 77));
        StockTest.expectIn(x, 3, 1, 1, 1);
        ShopLedger y = new ShopLedger();
        Setup.layers(y, 3);
        Check.due("take of all", 364, y.take(3, 78));
        StockTest.expectIn(y, 3, 0, 0, 0);
        Check.due("a layer behind", 1, y.stock(3, 2, 8));
        StockTest.expectIn(y, 3, 2, 16, 1);
    }

    /** Piece i costs i cents: whatever is in, the next one out is the one that came first. */
    private static void roundAndRound() {
        ShopLedger x = new ShopLedger();
        int came = 0;
        int left = 0;
        for (int turn = 0; turn < 14; turn++) {
            while (came - left < 12) {
                Check.due("layer", came - left + 1, x.stock(0, 1, came));
                came++;
            }
            for (int i = 0; i < 1 + turn % 12; i++) {
                Check.due("take of piece " + left, left, x.take(0, 1));
                left++;
            }
        }
        StockTest.expectIn(x, 0, came - left, (came - left) * (long) (came + left - 1) / 2, came - left);
    }

    private static void largest() {
        ShopLedger x = new ShopLedger();
        for (int i = 0; i < 12; i++) {
            x.stock(3, 1_000_000, 1_000_000);
        }
        StockTest.expectIn(x, 3, 12_000_000, 12_000_000_000_000L, 12);
        Check.due("the largest take of one layer", 1_000_000_000_000L, x.take(3, 1_000_000));
        Check.due("one piece", 1_000_000, x.take(3, 1));
        Check.due("the largest take over two layers", 1_000_000_000_000L, x.take(3, 1_000_000));
        StockTest.expectIn(x, 3, 9_999_999, 9_999_999_000_000L, 10);
        for (int i = 0; i < 9; i++) {
            Check.due("the largest take again", 1_000_000_000_000L, x.take(3, 1_000_000));
        }
        Check.refused("the largest take of one too few", Check.MEANING, () -> x.take(3, 1_000_000));
        Check.due("what is left", 999_999_000_000L, x.take(3, 999_999));
        StockTest.expectIn(x, 3, 0, 0, 0);
    }

    private static void noCost() {
        ShopLedger x = new ShopLedger();
        x.stock(0, 1_000_000, 0);
        x.stock(0, 1, 1_000_000);
        StockTest.expectIn(x, 0, 1_000_001, 1_000_000, 2);
        Check.due("take of no cost", 0, x.take(0, 999_999));
        Check.due("take of both", 1_000_000, x.take(0, 2));
        StockTest.expectIn(x, 0, 0, 0, 0);
    }

    private static void inStockIndex() {
        for (int what = 0; what < 3; what++) {
            int w = what;
            Edges.index("in of stock", 4, Setup::some, (x, v) -> x.in(v, w));
        }
    }

    private static void inWhatIndex() {
        for (int stock = 0; stock < 4; stock++) {
            int s = stock;
            Edges.index("in of what", 3, Setup::some, (x, v) -> x.in(s, v));
        }
        Edges.refused("in of neither", Check.INDEX, Setup::some, (x, v) -> x.in(v, v), -1, 4);
    }
}
