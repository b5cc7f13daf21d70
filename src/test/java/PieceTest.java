/** Promises 17 and 18: piece and opened. */
public final class PieceTest {
    public static void main(String[] args) {
        openedAbove();
        openedBelow();
        ordersAreApart();
        follows();
        Check.end("PieceTest");
    }

    private static void openedAbove() {
        ShopLedger x = new ShopLedger();
        Setup.balance(x, 2, 100);
        x.piece(2, 1);
        Check.due("one piece", 100, x.opened(0));
        x.piece(2, 1);
        x.piece(2, 1);
        Check.due("first of three", 33, x.opened(0));
        Check.due("second of three", 33, x.opened(1));
        Check.due("third of three", 34, x.opened(2));
    }

    private static void openedBelow() {
        ShopLedger x = new ShopLedger();
        Setup.balance(x, 2, -100);
        x.piece(2, 1);
        x.piece(2, 1);
        x.piece(2, 1);
        Check.due("first of three", -33, x.opened(0));
        Check.due("second of three", -33, x.opened(1));
        Check.due("third of three", -34, x.opened(2));
        ShopLedger y = new ShopLedger();
        Setup.balance(y, 0, -1);
        y.piece(0, 999_999);
        y.piece(0, 1);
        Check.due("the first of a cent", 0, y.opened(0));
        Check.due("the last of a cent", -1, y.opened(1));
    }

    private static void ordersAreApart() {
        ShopLedger x = new ShopLedger();
        Setup.balance(x, 2, 10);
        Setup.balance(x, 3, -10);
        x.piece(2, 1);
        x.piece(3, 1);
        x.piece(2, 2);
        x.piece(3, 3);
        x.piece(4, 5);
        x.weight(2, 1_000_000);
        Check.due("order 2's first", 3, x.opened(0));
        Check.due("order 3's first", -2, x.opened(1));
        Check.due("order 2's second", 7, x.opened(2));
        Check.due("order 3's second", -8, x.opened(3));
        Check.due("order 4's only", 0, x.opened(4));
    }

    private static void follows() {
        ShopLedger x = new ShopLedger();
        x.piece(1, 2);
        x.piece(1, 3);
        Setup.balance(x, 1, 50);
        Check.due("first", 20, x.opened(0));
        Check.due("second", 30, x.opened(1));
        x.reverse(0, 5);
        Check.due("first behind the reversal", 0, x.opened(0));
        Setup.balance(x, 1, -5);
        Check.due("second below", -3, x.opened(1));
    }
}
