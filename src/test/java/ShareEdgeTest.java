/** Promises 10 and 11: each boundary case of weight and share has a test of its own. */
public final class ShareEdgeTest {
    public static void main(String[] args) {
        Check.sentence("weight, index: no such order", ShareEdgeTest::weightIndex);
        Check.sentence("weight, range: it (0 .. 1,000,000)", ShareEdgeTest::weightRange);
        Check.sentence("An order's weight (0 at first)", ShareEdgeTest::nothingAtFirst);
        Check.sentence("share, index: no such order", ShareEdgeTest::shareIndex);
        Check.sentence("share, range: the sum (0 .. 1,000,000,000)", ShareEdgeTest::sumRange);
        Check.sentence("share, meaning: all weights are 0", ShareEdgeTest::allNothing);
        Check.sentence("some above 0: one weight alone takes all, whosever it is", ShareEdgeTest::oneAlone);
        Check.sentence("a weight of 0 has no share, whosever it is", ShareEdgeTest::weightOfNothing);
        Check.sentence("a sum of 0 is shared as 0", ShareEdgeTest::sumOfNothing);
        Check.sentence("rounded down: one cent among eight, and one less than the weights", ShareEdgeTest::fewCents);
        Check.sentence("less that of the orders ahead of it: a share by itself is not rounded",
            ShareEdgeTest::lessThoseAhead);
        Check.sentence("the largest sums by the largest weights", ShareEdgeTest::largest);
        Check.sentence("the largest weight beside the least", ShareEdgeTest::leastAndMost);
        Check.sentence("they sum to the sum", ShareEdgeTest::sumToTheSum);
        Check.end("ShareEdgeTest");
    }

    private static long weigh(ShopLedger x, int order, int v) {
        x.weight(order, v);
        return 0;
    }

    private static ShopLedger weighed(int... weights) {
        ShopLedger x = new ShopLedger();
        for (int order = 0; order < weights.length; order++) {
            x.weight(order, weights[order]);
        }
        return x;
    }

    private static void expectExact(int cents, int... weights) {
        ShopLedger x = weighed(weights);
        long together = 0;
        for (int order = 0; order < 8; order++) {
            together += x.share(order, cents);
        }
        Check.due("the shares together", cents, together);
        ShareTest.expect(x, cents, Parts.of(cents, weights));
    }

    private static void weightIndex() {
        Edges.index("weight of order", 8, Setup::some, (x, v) -> weigh(x, v, 1));
    }

    private static void weightRange() {
        Edges.range("weight", 0, 1_000_000, Setup::some, (x, v) -> weigh(x, 2, v));
        ShareTest.expect(weighed(1_000_000, 999_999, 1, 0, 0, 0, 0, 0), 2_000_000, 1_000_000, 999_999, 1, 0, 0, 0, 0, 0);
    }

    private static void nothingAtFirst() {
        for (int order = 0; order < 8; order++) {
            ShopLedger x = new ShopLedger();
            x.weight(order, 1);
            for (int k = 0; k < 8; k++) {
                Check.due("share of order " + k, k == order ? 9 : 0, x.share(k, 9));
            }
        }
    }

    private static void shareIndex() {
        Edges.index("share of order", 8, Setup::some, (x, v) -> x.share(v, 1));
    }

    private static void sumRange() {
        Edges.range("share of", 0, 1_000_000_000, Setup::some, (x, v) -> x.share(2, v));
    }

    private static void allNothing() {
        Edges.refused("share by no weights, of order", Check.MEANING, x -> x.correct(0, 1, 0, 0, 1),
            (x, v) -> x.share(v, 0), 0, 7);
        Edges.refused("share by weights taken back, of", Check.MEANING, x -> {
            x.weight(0, 1_000_000);
            x.weight(7, 1);
            x.weight(0, 0);
            x.weight(7, 0);
        }, (x, v) -> x.share(7, v), 0, 1, 1_000_000_000);
        ShopLedger x = weighed(0, 0, 0, 0, 0, 0, 0, 1);
        Check.due("share by the least weight", 0, x.share(0, 5));
        Check.due("share by the least weight", 5, x.share(7, 5));
        x.weight(7, 0);
        Check.refused("share behind it", Check.MEANING, () -> x.share(7, 5));
    }

    private static void oneAlone() {
        int[] weights = {1, 1_000_000};
        for (int v : weights) {
            for (int order = 0; order < 8; order++) {
                ShopLedger x = new ShopLedger();
                x.weight(order, v);
                for (int k = 0; k < 8; k++) {
                    Check.due("share of order " + k, k == order ? 1_000_000_000 : 0, x.share(k, 1_000_000_000));
                }
            }
        }
    }

    private static void weightOfNothing() {
        for (int order = 0; order < 8; order++) {
            ShopLedger x = weighed(3, 3, 3, 3, 3, 3, 3, 3);
            x.weight(order, 0);
            long together = 0;
            for (int k = 0; k < 8; k++) {
                together += x.share(k, 1_000_000_000);
            }
            Check.due("share of weight 0", 0, x.share(order, 1_000_000_000));
            Check.due("the shares together", 1_000_000_000, together);
        }
    }

    private static void sumOfNothing() {
        ShareTest.expect(weighed(1, 2, 3, 0, 5, 6, 7, 1_000_000), 0, 0, 0, 0, 0, 0, 0, 0, 0);
    }

    private static void fewCents() {
        ShopLedger x = weighed(1, 1, 1, 1, 1, 1, 1, 1);
        ShareTest.expect(x, 1, 0, 0, 0, 0, 0, 0, 0, 1);
        ShareTest.expect(x, 7, 0, 1, 1, 1, 1, 1, 1, 1);
        ShareTest.expect(x, 8, 1, 1, 1, 1, 1, 1, 1, 1);
        ShareTest.expect(x, 9, 1, 1, 1, 1, 1, 1, 1, 2);
    }

    /** 2 * 2/3 less 2 * 1/3 is 1 - 0, where 2 * 1/3 rounded by itself would be 0 or 1 for each. */
    private static void lessThoseAhead() {
        ShopLedger x = weighed(1, 0, 1, 0, 0, 1, 0, 0);
        ShareTest.expect(x, 2, 0, 0, 1, 0, 0, 1, 0, 0);
        ShareTest.expect(x, 4, 1, 0, 1, 0, 0, 2, 0, 0);
        ShareTest.expect(x, 5, 1, 0, 2, 0, 0, 2, 0, 0);
    }

    private static void largest() {
        ShopLedger x = weighed(1_000_000, 1_000_000, 1_000_000, 1_000_000,
            1_000_000, 1_000_000, 1_000_000, 1_000_000);
        ShareTest.expect(x, 1_000_000_000, 125_000_000, 125_000_000, 125_000_000, 125_000_000,
            125_000_000, 125_000_000, 125_000_000, 125_000_000);
        ShareTest.expect(x, 999_999_999, 124_999_999, 125_000_000, 125_000_000, 125_000_000,
            125_000_000, 125_000_000, 125_000_000, 125_000_000);
        expectExact(1_000_000_000, 1_000_000, 999_999, 999_998, 999_997, 999_996, 999_995, 999_994, 999_993);
        expectExact(999_999_999, 1_000_000, 1_000_000, 1_000_000, 1_000_000, 1_000_000, 1_000_000, 1_000_000, 999_999);
    }

    private static void leastAndMost() {
        ShareTest.expect(weighed(1, 0, 0, 0, 0, 0, 0, 1_000_000), 1_000_000_000, 999, 0, 0, 0, 0, 0, 0, 999_999_001);
        ShareTest.expect(weighed(1_000_000, 0, 0, 0, 0, 0, 0, 1), 1_000_000_000, 999_999_000, 0, 0, 0, 0, 0, 0, 1_000);
        ShareTest.expect(weighed(1_000_000, 0, 0, 0, 0, 0, 0, 1), 1_000_000, 999_999, 0, 0, 0, 0, 0, 0, 1);
        ShareTest.expect(weighed(1_000_000, 0, 0, 0, 0, 0, 0, 1), 1, 0, 0, 0, 0, 0, 0, 0, 1);
    }

    private static void sumToTheSum() {
        int[] sums = {0, 1, 97, 999_999_937, 999_999_999, 1_000_000_000};
        for (int sum : sums) {
            expectExact(sum, 999_983, 1, 0, 7, 524_287, 0, 1_000_000, 31);
            expectExact(sum, 0, 0, 1, 1_000_000, 0, 999_999, 1, 0);
            expectExact(sum, 3, 1, 4, 1, 5, 9, 2, 6);
        }
    }
}
