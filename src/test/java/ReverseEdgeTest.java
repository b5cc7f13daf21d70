/** Promise 6: each boundary case of reverse has a test of its own. */
public final class ReverseEdgeTest {
    public static void main(String[] args) {
        Check.sentence("Index: no such batch", ReverseEdgeTest::batchIndex);
        Check.sentence("Index: no such batch, of none and of the most", ReverseEdgeTest::noneAndMost);
        Check.sentence("Index: no such month", ReverseEdgeTest::monthIndex);
        Check.sentence("Turn: the month is closed, the latest closed one too", ReverseEdgeTest::turn);
        Check.sentence("Meaning: it was reversed", ReverseEdgeTest::wasReversed);
        Check.sentence("Meaning: it is a reversal", ReverseEdgeTest::isReversal);
        Check.sentence("a refused reversal is none: the batch can be reversed behind it", ReverseEdgeTest::stillCan);
        Check.sentence("Meaning: no room, for each number of entries", ReverseEdgeTest::room);
        Check.sentence("its entries in order with their sums turned round, all in that month",
            ReverseEdgeTest::sixteenEntries);
        Check.sentence("sums turned round, the largest and the smallest", ReverseEdgeTest::largestSums);
        Check.sentence("a batch of a month that is closed now is reversed in an open one",
            ReverseEdgeTest::ofClosedMonth);
        Check.sentence("a correction is a batch and is reversed, but not in the latest closed month",
            ReverseEdgeTest::ofCorrection);
        Check.sentence("each batch is reversed for itself, up to the last", ReverseEdgeTest::eachForItself);
        Check.sentence("a reversal leaves 0 and 16 lines told as they are", ReverseEdgeTest::linesStay);
        Check.end("ReverseEdgeTest");
    }

    private static void batchIndex() {
        Edges.index("reverse of batch", 2, Setup::some, (x, v) -> x.reverse(v, 11));
    }

    private static void noneAndMost() {
        Edges.refused("reverse of batch", Check.INDEX, x -> { }, (x, v) -> x.reverse(v, 0), 0, -1);
        Edges.index("reverse of batch", 99, x -> Setup.corrections(x, 99), (x, v) -> x.reverse(v, 0));
        Edges.refused("reverse of batch", Check.INDEX, x -> Setup.corrections(x, 100),
            (x, v) -> x.reverse(v, 0), -1, 100, 199, 200);
    }

    private static void monthIndex() {
        Edges.index("reverse in month", 12, Setup::open, (x, v) -> x.reverse(0, v));
        Edges.refused("reverse in month", Check.INDEX, x -> {
            Setup.open(x);
            Setup.close(x, 12);
        }, (x, v) -> x.reverse(0, v), -1, 12);
    }

    private static void turn() {
        for (int closed = 0; closed <= 12; closed++) {
            for (int month = 0; month < 12; month++) {
                ShopLedger x = new ShopLedger();
                x.correct(0, 1, 0, 0, 1);
                Setup.close(x, closed);
                int m = month;
                String call = "reverse in month " + month + " with " + closed + " closed";
                if (month < closed) {
                    Check.refused(call, Check.TURN, () -> x.reverse(0, m));
                } else {
                    Check.due(call, 1, x.reverse(0, m));
                }
            }
        }
        Edges.refused("reverse in month", Check.TURN, Setup::some, (x, v) -> x.reverse(0, v), 0, 1);
    }

    /** Batch 0 was reversed in month 2, as batch 2; 1 was not. */
    private static void reversed(ShopLedger x) {
        Setup.some(x);
        x.reverse(0, 2);
    }

    private static void wasReversed() {
        Edges.refused("reverse again, in month", Check.MEANING, ReverseEdgeTest::reversed,
            (x, v) -> x.reverse(0, v), 2, 3, 11);
        ShopLedger x = new ShopLedger();
        reversed(x);
        Check.due("reverse of the one not reversed", 3, x.reverse(1, 2));
        Check.refused("reverse of both again", Check.MEANING, () -> x.reverse(0, 2));
        Check.refused("reverse of both again", Check.MEANING, () -> x.reverse(1, 2));
    }

    private static void isReversal() {
        Edges.refused("reverse of a reversal, in month", Check.MEANING, ReverseEdgeTest::reversed,
            (x, v) -> x.reverse(2, v), 2, 3, 11);
        ShopLedger x = new ShopLedger();
        reversed(x);
        x.reverse(1, 2);
        Check.refused("reverse of the first reversal", Check.MEANING, () -> x.reverse(2, 2));
        Check.refused("reverse of the second reversal", Check.MEANING, () -> x.reverse(3, 2));
        Check.due("entries", 8, x.many(0));
        Check.due("batches", 4, x.many(1));
    }

    private static void stillCan() {
        ShopLedger x = new ShopLedger();
        Setup.some(x);
        Check.refused("reverse in no month", Check.INDEX, () -> x.reverse(0, 12));
        Check.refused("reverse in a closed month", Check.TURN, () -> x.reverse(0, 1));
        Check.due("reverse in the first open month", 2, x.reverse(0, 2));
        Check.refused("reverse of the next batch before it is", Check.INDEX, () -> x.reverse(3, 2));
        Check.due("the next batch", 3, x.correct(0, 1, 0, 2, 1));
        Check.due("reverse of it", 4, x.reverse(3, 2));
    }

    private static void room() {
        for (int entries = 2; entries <= 16; entries++) {
            int size = entries;
            ShopLedger x = new ShopLedger();
            beforeAndMore(x, size, 200 - size);
            Check.due("reverse of " + size + " that fills the books", x.many(1), x.reverse(0, 0));
            Check.due("entries", 200, x.many(0));
            ShopLedger y = new ShopLedger();
            beforeAndMore(y, size, 201 - size);
            int batches = y.many(1);
            Check.refused("reverse of " + size + ", one too many", Check.MEANING, () -> y.reverse(0, 0));
            Check.due("entries", 201 - size, y.many(0));
            Check.due("batches", batches, y.many(1));
        }
        Edges.refused("reverse when full, of batch", Check.MEANING, x -> Setup.entries(x, 200),
            (x, v) -> x.reverse(v, 11), 0, 99);
        Edges.refused("reverse of three where two have room, of batch", Check.MEANING, x -> {
            Setup.tell(x, 3);
            x.put();
            Setup.entries(x, 195);
        }, (x, v) -> x.reverse(v, 11), 0, 1);
    }

    /** A batch of so many lines, and entries of others up to so many in all. */
    private static void beforeAndMore(ShopLedger x, int lines, int all) {
        Setup.tell(x, lines);
        x.put();
        Setup.entries(x, all - lines);
    }

    private static void sixteenEntries() {
        int[] months = {0, 11};
        for (int month : months) {
            ShopLedger x = new ShopLedger();
            x.correct(0, 1, 2, 3, 4);
            Setup.lines(x, 8);
            x.put();
            x.correct(5, 6, 7, 8, 9);
            Check.due("reverse of 16", 3, x.reverse(1, month));
            Check.due("entries", 36, x.many(0));
            for (int i = 0; i < 16; i++) {
                Check.due("sum turned round", -x.told(3, 2 + i), x.told(3, 20 + i));
                Check.due("account as it was", x.told(4, 2 + i), x.told(4, 20 + i));
                Check.due("order as it was", x.told(5, 2 + i), x.told(5, 20 + i));
                Check.due("month of the reversal", month, x.told(6, 20 + i));
                Check.due("batch of the reversal", 3, x.told(7, 20 + i));
            }
            Check.due("the first of them", -1, x.told(3, 20));
            Check.due("the last of them", 8, x.told(3, 35));
            Check.due("the reversed batch stays", 1, x.told(3, 2));
        }
    }

    private static void largestSums() {
        ShopLedger x = new ShopLedger();
        x.line(0, 0, 0, 1_000_000_000);
        x.line(7, 7, 11, -1_000_000_000);
        x.put();
        x.reverse(0, 11);
        Check.due("the largest turned round", -1_000_000_000, x.told(3, 2));
        Check.due("the smallest turned round", 1_000_000_000, x.told(3, 3));
        for (int k = 0; k < 8; k++) {
            Check.due("balance of account " + k, 0, x.told(0, k));
            Check.due("balance of order " + k, 0, x.told(1, k));
        }
        Check.due("balance of the first month", 1_000_000_000, x.told(2, 0));
        Check.due("balance of the last month", -1_000_000_000, x.told(2, 11));
    }

    private static void ofClosedMonth() {
        ShopLedger x = new ShopLedger();
        Setup.balance(x, 2, 5);
        Setup.close(x, 11);
        Check.refused("reverse in the latest closed month", Check.TURN, () -> x.reverse(0, 10));
        Check.refused("reverse in its own month", Check.TURN, () -> x.reverse(0, 0));
        Check.due("reverse in the only open one", 1, x.reverse(0, 11));
        x.correct(0, 1, 0, 11, 1);
        x.close();
        Check.refused("reverse when all are closed", Check.TURN, () -> x.reverse(2, 11));
    }

    private static void ofCorrection() {
        ShopLedger x = new ShopLedger();
        x.close();
        x.correct(3, 4, 5, 0, 77);
        Check.refused("reverse in the latest closed month", Check.TURN, () -> x.reverse(0, 0));
        Check.due("reverse in the first open one", 1, x.reverse(0, 1));
        Check.due("sum of what was from", 77, x.told(3, 2));
        Check.due("account of what was from", 3, x.told(4, 2));
        Check.due("sum of what was to", -77, x.told(3, 3));
        Check.due("account of what was to", 4, x.told(4, 3));
        Check.refused("reverse again", Check.MEANING, () -> x.reverse(0, 1));
    }

    private static void eachForItself() {
        ShopLedger x = new ShopLedger();
        Setup.corrections(x, 50);
        for (int batch = 0; batch < 50; batch++) {
            int b = batch;
            Check.due("reverse of batch " + batch, 50 + batch, x.reverse(batch, 11));
            Check.due("balance of account 1", 49 - batch, x.told(0, 1));
            if (batch < 49) {
                Check.refused("reverse of it again", Check.MEANING, () -> x.reverse(b, 11));
                Check.refused("reverse of its reversal", Check.MEANING, () -> x.reverse(50 + b, 11));
            }
        }
        Check.due("entries", 200, x.many(0));
        Check.due("batches", 100, x.many(1));
    }

    private static void linesStay() {
        ShopLedger x = new ShopLedger();
        Setup.corrections(x, 2);
        x.reverse(0, 0);
        Check.due("no lines", 0, x.many(2));
        Setup.lines(x, 8);
        x.reverse(1, 0);
        Check.due("16 lines", 16, x.many(2));
        Check.due("put of them", 4, x.put());
        Check.due("entries", 24, x.many(0));
    }
}
