/** Promises 17 and 18: each boundary case of piece and opened has a test of its own. */
public final class PieceEdgeTest {
    public static void main(String[] args) {
        Check.sentence("piece, index: no such order", PieceEdgeTest::pieceIndex);
        Check.sentence("piece, turn: there are 10", PieceEdgeTest::ten);
        Check.sentence("PIECES of an order (at most 10 in all): not ten each", PieceEdgeTest::tenInAll);
        Check.sentence("piece, range: its weight (1 .. 1,000,000)", PieceEdgeTest::weightRange);
        Check.sentence("One more piece of an order: its number", PieceEdgeTest::numbers);
        Check.sentence("opened, index: no such piece, of none, some and ten", PieceEdgeTest::openedIndex);
        Check.sentence("opened: a balance of 0", PieceEdgeTest::noBalance);
        Check.sentence("opened: a piece alone has all of its order's balance", PieceEdgeTest::alone);
        Check.sentence("opened: an order's balance is shared to its pieces alone", PieceEdgeTest::itsPiecesAlone);
        Check.sentence("opened: one cent, and one cent below 0", PieceEdgeTest::oneCent);
        Check.sentence("of a balance below 0 the shares are those of the balance turned round, turned round",
            PieceEdgeTest::below);
        Check.sentence("opened: the balance of the day: above, 0 and below", PieceEdgeTest::balanceMoves);
        Check.sentence("opened: the largest balance by the largest weights of ten", PieceEdgeTest::largest);
        Check.sentence("opened: the largest weight beside the least", PieceEdgeTest::leastAndMost);
        Check.sentence("opened: the parts sum to the balance", PieceEdgeTest::sumToTheBalance);
        Check.sentence("opened: weights of orders are no weights of pieces", PieceEdgeTest::otherWeights);
        Check.end("PieceEdgeTest");
    }

    private static void pieceIndex() {
        Edges.index("piece of order", 8, Setup::some, (x, v) -> x.piece(v, 1));
    }

    private static void ten() {
        ShopLedger x = new ShopLedger();
        for (int i = 0; i < 10; i++) {
            Check.due("piece " + i, i, x.piece(7, 1_000_000));
        }
        Check.refused("piece 10", Check.TURN, () -> x.piece(7, 1));
        Check.refused("piece 10 again", Check.TURN, () -> x.piece(7, 1_000_000));
        Check.due("pieces", 10, x.many(4));
        Check.refusedUnchanged("piece 10", Check.TURN, Setup::full, y -> y.piece(4, 3));
    }

    private static void tenInAll() {
        ShopLedger x = new ShopLedger();
        for (int i = 0; i < 10; i++) {
            Check.due("piece " + i, i, x.piece(i % 8, 1));
        }
        for (int order = 0; order < 8; order++) {
            int k = order;
            Check.refused("piece 10 of order " + order, Check.TURN, () -> x.piece(k, 1));
        }
    }

    private static void weightRange() {
        Edges.range("piece of weight", 1, 1_000_000, Setup::some, (x, v) -> x.piece(1, v));
        Edges.refused("piece of weight", Check.RANGE, Setup::some, (x, v) -> x.piece(1, v), -1, -1_000_000);
    }

    private static void numbers() {
        ShopLedger x = new ShopLedger();
        for (int i = 0; i < 10; i++) {
            Check.due("pieces before", i, x.many(4));
            Check.refused("a piece of weight 0", Check.RANGE, () -> x.piece(3, 0));
            Check.due("piece", i, x.piece(7 - i % 8, 1));
            Check.due("pieces behind", i + 1, x.many(4));
        }
    }

    private static void openedIndex() {
        Edges.refused("opened of none,", Check.INDEX, x -> Setup.balance(x, 0, 1),
            ShopLedger::opened, -1, 0, 1, 9, 10);
        Edges.index("opened of one,", 1, x -> x.piece(7, 1), ShopLedger::opened);
        Edges.index("opened of some,", 2, Setup::some, ShopLedger::opened);
        Edges.index("opened of ten,", 10, Setup::full, ShopLedger::opened);
    }

    private static void noBalance() {
        ShopLedger x = new ShopLedger();
        for (int i = 0; i < 10; i++) {
            x.piece(i % 8, 1_000_000);
            Check.due("opened of no entries", 0, x.opened(i));
        }
        Setup.balance(x, 0, 1_000_000_000);
        x.reverse(0, 0);
        for (int i = 0; i < 10; i++) {
            Check.due("opened of a batch and its reversal", 0, x.opened(i));
        }
    }

    private static void alone() {
        int[] weights = {1, 1_000_000};
        int[] sums = {1, -1, 1_000_000_000, -1_000_000_000};
        for (int weight : weights) {
            for (int sum : sums) {
                ShopLedger x = new ShopLedger();
                x.piece(3, weight);
                x.piece(7, weight);
                Setup.balance(x, 3, sum);
                Check.due("opened of a piece alone", sum, x.opened(0));
                Check.due("opened of the other order's", -sum, x.opened(1));
            }
        }
    }

    private static void itsPiecesAlone() {
        ShopLedger x = new ShopLedger();
        x.piece(2, 1);
        x.piece(7, 1_000_000);
        x.piece(2, 2);
        x.piece(5, 500_000);
        x.piece(2, 3);
        Setup.balance(x, 2, 60);
        long[] want = {10, -60, 20, 0, 30};
        for (int piece = 0; piece < 5; piece++) {
            Check.due("opened(" + piece + ")", want[piece], x.opened(piece));
        }
        ShopLedger y = new ShopLedger();
        Setup.balance(y, 2, 60);
        Check.due("a balance without pieces", 60, y.told(1, 2));
        Check.due("a piece behind its balance", 0, y.piece(2, 9));
        Check.due("opened of it", 60, y.opened(0));
        y.piece(2, 9);
        Check.due("opened of it beside another", 30, y.opened(0));
    }

    private static void expect(ShopLedger x, long... want) {
        for (int piece = 0; piece < want.length; piece++) {
            Check.due("opened(" + piece + ")", want[piece], x.opened(piece));
        }
    }

    private static ShopLedger threeAlike(int cents) {
        ShopLedger x = new ShopLedger();
        for (int i = 0; i < 3; i++) {
            x.piece(0, 1);
        }
        Setup.balance(x, 0, cents);
        return x;
    }

    private static void oneCent() {
        expect(threeAlike(1), 0, 0, 1);
        expect(threeAlike(-1), 0, 0, -1);
    }

    private static void below() {
        expect(threeAlike(2), 0, 1, 1);
        expect(threeAlike(-2), 0, -1, -1);
        expect(threeAlike(100), 33, 33, 34);
        expect(threeAlike(-100), -33, -33, -34);
        expect(threeAlike(1_000_000_000), 333_333_333, 333_333_333, 333_333_334);
        expect(threeAlike(-1_000_000_000), -333_333_333, -333_333_333, -333_333_334);
    }

    private static void balanceMoves() {
        ShopLedger x = threeAlike(2);
        Setup.balance(x, 0, -2);
        expect(x, 0, 0, 0);
        Setup.balance(x, 0, -2);
        expect(x, 0, -1, -1);
        x.correct(0, 1, 0, 0, 1_000_000_000);
        expect(x, 0, -1, -1);
        Setup.balance(x, 0, 6);
        expect(x, 1, 1, 2);
    }

    private static void expectExact(ShopLedger x, long balance, int... weights) {
        long together = 0;
        for (int piece = 0; piece < weights.length; piece++) {
            together += x.opened(piece);
        }
        Check.due("the parts together", balance, together);
        expect(x, Parts.of(balance, weights));
    }

    /** A hundred billion cents by ten million: 10^18, near what 64 bits hold. */
    private static void largest() {
        int[] orders = {0, 7};
        int[][] weights = {
            {1_000_000, 1_000_000, 1_000_000, 1_000_000, 1_000_000,
                1_000_000, 1_000_000, 1_000_000, 1_000_000, 1_000_000},
            {1_000_000, 999_999, 999_998, 999_997, 999_996, 999_995, 999_994, 999_993, 999_992, 999_991},
            {1_000_000, 1_000_000, 1_000_000, 1_000_000, 1_000_000,
                1_000_000, 1_000_000, 1_000_000, 1_000_000, 1},
            // The first five miss a whole cent by one part in 4,999,949, which a double does not see.
            {912_256, 913_254, 914_254, 915_254, 916_254, 85_537, 85_635, 85_735, 85_835, 85_935},
        };
        for (int order : orders) {
            for (int[] row : weights) {
                ShopLedger x = new ShopLedger();
                Setup.largest(x);
                for (int w : row) {
                    x.piece(order, w);
                }
                expectExact(x, order == 0 ? 100_000_000_000L : -100_000_000_000L, row);
            }
        }
    }

    private static void leastAndMost() {
        int[] sums = {1, -1, 1_000_000, -1_000_000, 1_000_000_000, -1_000_000_000};
        for (int sum : sums) {
            ShopLedger x = new ShopLedger();
            x.piece(0, 1);
            x.piece(0, 1_000_000);
            Setup.balance(x, 0, sum);
            expectExact(x, sum, 1, 1_000_000);
            ShopLedger y = new ShopLedger();
            y.piece(0, 1_000_000);
            y.piece(0, 1);
            Setup.balance(y, 0, sum);
            expectExact(y, sum, 1_000_000, 1);
        }
    }

    private static void sumToTheBalance() {
        int[] weights = {3, 1, 4, 1, 5, 9, 2, 6, 535_897, 999_983};
        int[] sums = {1, -1, 7, -7, 999_999_937, -999_999_937};
        for (int sum : sums) {
            ShopLedger x = new ShopLedger();
            for (int w : weights) {
                x.piece(6, w);
            }
            Setup.balance(x, 6, sum);
            expectExact(x, sum, weights);
        }
    }

    private static void otherWeights() {
        ShopLedger x = threeAlike(100);
        x.weight(0, 1_000_000);
        x.weight(1, 1);
        expect(x, 33, 33, 34);
        Check.due("share of order 0", 99, x.share(0, 100));
    }
}
