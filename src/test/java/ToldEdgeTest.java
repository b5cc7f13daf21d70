/** Promises 8 and 9: each boundary case of told and many has a test of its own. */
public final class ToldEdgeTest {
    public static void main(String[] args) {
        Check.sentence("told, index: no such what", ToldEdgeTest::whatIndex);
        Check.sentence("told, index: no such account", () -> balanceIndex(0, 8));
        Check.sentence("told, index: no such order", () -> balanceIndex(1, 8));
        Check.sentence("told, index: no such month", () -> balanceIndex(2, 12));
        Check.sentence("told, index: no such entry, of none", ToldEdgeTest::noEntry);
        Check.sentence("told, index: no such entry, of some", ToldEdgeTest::someEntries);
        Check.sentence("told, index: no such entry, of 200", ToldEdgeTest::allEntries);
        Check.sentence("many, index: no such what", ToldEdgeTest::manyIndex);
        Check.sentence("many of what is empty", ToldEdgeTest::manyOfNone);
        Check.sentence("many of what is full", ToldEdgeTest::manyOfAll);
        Check.sentence("Sums are cents (longs): the largest balances", ToldEdgeTest::largestBalances);
        Check.sentence("the balance is the sum of its entries, nothing again behind reversals",
            ToldEdgeTest::nothingAgain);
        Check.end("ToldEdgeTest");
    }

    private static void whatIndex() {
        Edges.index("told of what", 8, Setup::some, (x, v) -> x.told(v, 0));
        Edges.refused("new told of what", Check.INDEX, x -> { }, (x, v) -> x.told(v, 0), -1, 8);
        Edges.refused("full told of what", Check.INDEX, Setup::full, (x, v) -> x.told(v, 199), -1, 8);
    }

    private static void balanceIndex(int what, int count) {
        Edges.index("told(" + what + ") of", count, Setup::some, (x, v) -> x.told(what, v));
        Edges.index("new told(" + what + ") of", count, x -> { }, (x, v) -> x.told(what, v));
        Edges.index("full told(" + what + ") of", count, Setup::full, (x, v) -> x.told(what, v));
    }

    private static void noEntry() {
        for (int what = 3; what < 8; what++) {
            int w = what;
            Edges.refused("new told(" + w + ") of", Check.INDEX, x -> { }, (x, v) -> x.told(w, v), -1, 0, 1);
            Edges.refused("told(" + w + ") with lines told, of", Check.INDEX, x -> Setup.lines(x, 8),
                (x, v) -> x.told(w, v), 0);
        }
    }

    private static void someEntries() {
        for (int what = 3; what < 8; what++) {
            int w = what;
            Edges.index("told(" + w + ") of", 4, Setup::some, (x, v) -> x.told(w, v));
        }
    }

    private static void allEntries() {
        for (int what = 3; what < 8; what++) {
            int w = what;
            Edges.index("told(" + w + ") of", 200, Setup::full, (x, v) -> x.told(w, v));
        }
    }

    private static void manyIndex() {
        Edges.index("many of", 5, Setup::some, ShopLedger::many);
        Edges.index("new many of", 5, x -> { }, ShopLedger::many);
        Edges.index("full many of", 5, Setup::full, ShopLedger::many);
    }

    private static void manyOfNone() {
        for (int what = 0; what < 5; what++) {
            Check.due("many(" + what + ")", 0, new ShopLedger().many(what));
        }
    }

    private static void manyOfAll() {
        ShopLedger x = new ShopLedger();
        Setup.full(x);
        int[] want = {200, 100, 16, 12, 10};
        for (int what = 0; what < 5; what++) {
            Check.due("many(" + what + ")", want[what], x.many(what));
        }
    }

    /** A hundred billion cents, far above what an int holds, on either side. */
    private static void largestBalances() {
        ShopLedger x = new ShopLedger();
        Setup.largest(x);
        Check.due("entries", 200, x.many(0));
        for (int what = 0; what < 3; what++) {
            int last = what == 2 ? 11 : 7;
            Check.due("largest balance of " + what, 100_000_000_000L, x.told(what, 0));
            Check.due("smallest balance of " + what, -100_000_000_000L, x.told(what, last));
            for (int k = 1; k < last; k++) {
                Check.due("balance between of " + what, 0, x.told(what, k));
            }
        }
    }

    private static void nothingAgain() {
        ShopLedger x = new ShopLedger();
        for (int batch = 0; batch < 6; batch++) {
            for (int i = 0; i < 16; i++) {
                x.line(i % 8, i / 2, 5, i % 2 == 0 ? 1_000_000_000 : -1_000_000_000);
            }
            x.put();
        }
        Check.due("balance of account 0", 12_000_000_000L, x.told(0, 0));
        Check.due("balance of account 7", -12_000_000_000L, x.told(0, 7));
        for (int batch = 0; batch < 6; batch++) {
            x.reverse(batch, 5);
        }
        for (int what = 0; what < 3; what++) {
            for (int k = 0; k < 8; k++) {
                Check.due("balance of " + what + ", " + k, 0, x.told(what, k));
            }
        }
    }
}
