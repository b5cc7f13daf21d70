import java.math.BigInteger;

/** Promises 17 and 18: piece and opened. */
public final class PieceTest {
    public static void main(String[] args) {
        numbers();
        openedAbove();
        openedBelow();
        ordersAreApart();
        follows();
        largest();
        refused();
        orderOfChecks();
        Check.end("PieceTest");
    }

    /** Gives an order a balance against order 7. */
    private static void balance(ShopLedger x, int order, int cents) {
        x.line(0, order, 0, cents);
        x.line(0, 7, 0, -cents);
        x.put();
    }

    private static void numbers() {
        ShopLedger x = new ShopLedger();
        for (int i = 0; i < 10; i++) {
            Check.due("many(4)", i, x.many(4));
            int k = i;
            Check.refused("opened(" + i + ") before it came", Check.INDEX, () -> x.opened(k));
            Check.due("piece " + i, i, x.piece(i % 8, i == 9 ? 1_000_000 : 1));
            Check.due("opened(" + i + ") of no balance", 0, x.opened(i));
        }
        Check.refused("piece 10", Check.TURN, () -> x.piece(0, 1));
        Check.refused("opened(10)", Check.INDEX, () -> x.opened(10));
        Check.due("many(4)", 10, x.many(4));
    }

    private static void openedAbove() {
        ShopLedger x = new ShopLedger();
        balance(x, 2, 100);
        x.piece(2, 1);
        Check.due("one piece", 100, x.opened(0));
        x.piece(2, 1);
        x.piece(2, 1);
        Check.due("first of three", 33, x.opened(0));
        Check.due("second of three", 33, x.opened(1));
        Check.due("third of three", 34, x.opened(2));
    }

    private static void openedBelow() {
        ShopLedger x = new ShopLedger();
        balance(x, 2, -100);
        x.piece(2, 1);
        x.piece(2, 1);
        x.piece(2, 1);
        Check.due("first of three", -33, x.opened(0));
        Check.due("second of three", -33, x.opened(1));
        Check.due("third of three", -34, x.opened(2));
        ShopLedger y = new ShopLedger();
        balance(y, 0, -1);
        y.piece(0, 999_999);
        y.piece(0, 1);
        Check.due("the first of a cent", 0, y.opened(0));
        Check.due("the last of a cent", -1, y.opened(1));
    }

    private static void ordersAreApart() {
        ShopLedger x = new ShopLedger();
        balance(x, 2, 10);
        balance(x, 3, -10);
        x.piece(2, 1);
        x.piece(3, 1);
        x.piece(2, 2);
        x.piece(3, 3);
        x.piece(4, 5);
        x.weight(2, 1_000_000);
        Check.due("order 2's first", 3, x.opened(0));
        Check.due("order 3's first", -2, x.opened(1));
        Check.due("order 2's second", 7, x.opened(2));
        Check.due("order 3's second", -8, x.opened(3));
        Check.due("order 4's only", 0, x.opened(4));
    }

    private static void follows() {
        ShopLedger x = new ShopLedger();
        x.piece(1, 2);
        x.piece(1, 3);
        balance(x, 1, 50);
        Check.due("first", 20, x.opened(0));
        Check.due("second", 30, x.opened(1));
        x.reverse(0, 5);
        Check.due("first behind the reversal", 0, x.opened(0));
        balance(x, 1, -5);
        Check.due("second below", -3, x.opened(1));
    }

    /** The balance of all entries but one for each batch, shared by the largest weights. */
    private static void largest() {
        ShopLedger x = new ShopLedger();
        for (int batch = 0; batch < 12; batch++) {
            for (int i = 0; i < 8; i++) {
                x.line(i, 0, 0, 1_000_000_000);
                x.line(i, 1, 0, -1_000_000_000);
            }
            x.put();
        }
        long balance = 96_000_000_000L;
        Check.due("the order's balance", balance, x.told(1, 0));
        for (int i = 0; i < 5; i++) {
            x.piece(0, 1_000_000 - i);
            x.piece(1, 1_000_000 - i);
        }
        long all = 4_999_990;
        long ahead = 0;
        for (int i = 0; i < 5; i++) {
            long part = floor(balance, ahead + 1_000_000 - i, all) - floor(balance, ahead, all);
            Check.due("opened above", part, x.opened(2 * i));
            Check.due("opened below", -part, x.opened(2 * i + 1));
            ahead += 1_000_000 - i;
        }
    }

    private static long floor(long sum, long weights, long all) {
        return BigInteger.valueOf(sum).multiply(BigInteger.valueOf(weights))
            .divide(BigInteger.valueOf(all)).longValueExact();
    }

    private static void refused() {
        int[] wrongOrders = {8, -1, Integer.MAX_VALUE, Integer.MIN_VALUE};
        for (int order : wrongOrders) {
            Check.refusedUnchanged("piece of no order", Check.INDEX, Setup::some, x -> x.piece(order, 1));
        }
        int[] wrongWeights = {0, -1, 1_000_001, Integer.MAX_VALUE, Integer.MIN_VALUE};
        for (int weight : wrongWeights) {
            Check.refusedUnchanged("piece of weight " + weight, Check.RANGE, Setup::some, x -> x.piece(1, weight));
        }
        Check.refusedUnchanged("piece 10", Check.TURN, PieceTest::fill, x -> x.piece(1, 1));
        int[] wrongPieces = {2, -1, 9, 10, Integer.MAX_VALUE, Integer.MIN_VALUE};
        for (int piece : wrongPieces) {
            Check.refusedUnchanged("opened(" + piece + ")", Check.INDEX, Setup::some, x -> x.opened(piece));
        }
    }

    private static void fill(ShopLedger x) {
        for (int i = 0; i < 10; i++) {
            x.piece(1, i + 1);
        }
        balance(x, 1, 1_000);
    }

    private static void orderOfChecks() {
        ShopLedger x = new ShopLedger();
        fill(x);
        Check.refused("index before turn", Check.INDEX, () -> x.piece(8, 1));
        Check.refused("index before range", Check.INDEX, () -> x.piece(-1, 0));
        Check.refused("turn before range", Check.TURN, () -> x.piece(0, 0));
    }
}
