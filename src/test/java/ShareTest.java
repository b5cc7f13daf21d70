/** Promises 10 and 11: weight and share. */
public final class ShareTest {
    public static void main(String[] args) {
        shares();
        weightIsSetAnew();
        Check.end("ShareTest");
    }

    /** The shares of all eight orders. */
    static void expect(ShopLedger x, int cents, long... want) {
        for (int order = 0; order < 8; order++) {
            Check.due("share(" + order + ", " + cents + ")", want[order], x.share(order, cents));
        }
    }

    private static void shares() {
        ShopLedger x = new ShopLedger();
        x.weight(0, 1);
        x.weight(3, 1);
        x.weight(7, 1);
        expect(x, 100, 33, 0, 0, 33, 0, 0, 0, 34);
        expect(x, 2, 0, 0, 0, 1, 0, 0, 0, 1);
        expect(x, 1, 0, 0, 0, 0, 0, 0, 0, 1);
        expect(x, 0, 0, 0, 0, 0, 0, 0, 0, 0);
    }

    private static void weightIsSetAnew() {
        ShopLedger x = new ShopLedger();
        x.weight(0, 1);
        x.weight(7, 3);
        expect(x, 10, 2, 0, 0, 0, 0, 0, 0, 8);
        x.weight(0, 0);
        expect(x, 10, 0, 0, 0, 0, 0, 0, 0, 10);
        x.weight(7, 0);
        Check.refused("share when all are 0 again", Check.MEANING, () -> x.share(7, 10));
        x.weight(4, 1_000_000);
        expect(x, 1_000_000_000, 0, 0, 0, 0, 1_000_000_000, 0, 0, 0);
    }
}
