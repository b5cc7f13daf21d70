import java.math.BigInteger;

/** Promises 10 and 11: weight and share. */
public final class ShareTest {
    public static void main(String[] args) {
        shares();
        weightIsSetAnew();
        largest();
        sumToTheSum();
        refused();
        orderOfChecks();
        Check.end("ShareTest");
    }

    private static void expect(ShopLedger x, int cents, long... want) {
        for (int order = 0; order < 8; order++) {
            Check.due("share(" + order + ", " + cents + ")", want[order], x.share(order, cents));
        }
    }

    private static void shares() {
        ShopLedger x = new ShopLedger();
        x.weight(0, 1);
        x.weight(3, 1);
        x.weight(7, 1);
        expect(x, 100, 33, 0, 0, 33, 0, 0, 0, 34);
        expect(x, 2, 0, 0, 0, 1, 0, 0, 0, 1);
        expect(x, 1, 0, 0, 0, 0, 0, 0, 0, 1);
        expect(x, 0, 0, 0, 0, 0, 0, 0, 0, 0);
    }

    private static void weightIsSetAnew() {
        ShopLedger x = new ShopLedger();
        x.weight(0, 1);
        x.weight(7, 3);
        expect(x, 10, 2, 0, 0, 0, 0, 0, 0, 8);
        x.weight(0, 0);
        expect(x, 10, 0, 0, 0, 0, 0, 0, 0, 10);
        x.weight(7, 0);
        Check.refused("share when all are 0 again", Check.MEANING, () -> x.share(7, 10));
        x.weight(4, 1_000_000);
        expect(x, 1_000_000_000, 0, 0, 0, 0, 1_000_000_000, 0, 0, 0);
    }

    private static void largest() {
        ShopLedger x = new ShopLedger();
        for (int order = 0; order < 8; order++) {
            x.weight(order, 1_000_000);
        }
        expect(x, 1_000_000_000, 125_000_000, 125_000_000, 125_000_000, 125_000_000,
            125_000_000, 125_000_000, 125_000_000, 125_000_000);
        x.weight(7, 999_999);
        Check.due("share of the last", 124_999_891, x.share(7, 1_000_000_000));
    }

    private static void sumToTheSum() {
        int[] weights = {999_983, 1, 0, 7, 524_287, 0, 1_000_000, 31};
        int[] sums = {1, 97, 999_999_937, 1_000_000_000};
        ShopLedger x = new ShopLedger();
        BigInteger all = BigInteger.ZERO;
        for (int order = 0; order < 8; order++) {
            x.weight(order, weights[order]);
            all = all.add(BigInteger.valueOf(weights[order]));
        }
        for (int sum : sums) {
            BigInteger upTo = BigInteger.ZERO;
            long before = 0;
            long told = 0;
            for (int order = 0; order < 8; order++) {
                upTo = upTo.add(BigInteger.valueOf(weights[order]));
                long behind = upTo.multiply(BigInteger.valueOf(sum)).divide(all).longValueExact();
                long share = x.share(order, sum);
                Check.due("share(" + order + ", " + sum + ")", behind - before, share);
                before = behind;
                told += share;
            }
            Check.due("the shares together", sum, told);
        }
    }

    private static void refused() {
        int[] wrongOrders = {8, -1, Integer.MAX_VALUE, Integer.MIN_VALUE};
        for (int order : wrongOrders) {
            Check.refusedUnchanged("weight of no order", Check.INDEX, Setup::some, x -> weigh(x, order, 1));
            Check.refusedUnchanged("share of no order", Check.INDEX, Setup::some, x -> x.share(order, 1));
        }
        int[] wrongWeights = {-1, 1_000_001, Integer.MAX_VALUE, Integer.MIN_VALUE};
        for (int v : wrongWeights) {
            Check.refusedUnchanged("weight " + v, Check.RANGE, Setup::some, x -> weigh(x, 2, v));
        }
        int[] wrongSums = {-1, 1_000_000_001, Integer.MAX_VALUE, Integer.MIN_VALUE};
        for (int cents : wrongSums) {
            Check.refusedUnchanged("share of " + cents, Check.RANGE, Setup::some, x -> x.share(2, cents));
        }
        Check.refusedUnchanged("share by no weights", Check.MEANING, x -> x.correct(0, 1, 0, 0, 1), x -> x.share(0, 0));
    }

    private static long weigh(ShopLedger x, int order, int v) {
        x.weight(order, v);
        return 0;
    }

    private static void orderOfChecks() {
        ShopLedger x = new ShopLedger();
        Check.refused("weight: index before range", Check.INDEX, () -> x.weight(8, -1));
        Check.refused("share: index before range", Check.INDEX, () -> x.share(8, -1));
        Check.refused("share: range before meaning", Check.RANGE, () -> x.share(0, -1));
        Check.refused("share: index before meaning", Check.INDEX, () -> x.share(-1, 1));
    }
}
