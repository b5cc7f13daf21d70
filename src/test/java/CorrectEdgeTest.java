/** Promises 5 and 7: each boundary case of correct and close has a test of its own. */
public final class CorrectEdgeTest {
    public static void main(String[] args) {
        Check.sentence("Index: no such account to correct from", CorrectEdgeTest::fromIndex);
        Check.sentence("Index: no such account to correct to", CorrectEdgeTest::toIndex);
        Check.sentence("Index: they are one", CorrectEdgeTest::areOne);
        Check.sentence("Index: no such order", CorrectEdgeTest::orderIndex);
        Check.sentence("Index: no such month", CorrectEdgeTest::monthIndex);
        Check.sentence("Turn: the month is closed and not the latest closed one", CorrectEdgeTest::turn);
        Check.sentence("Turn: the latest closed month is one no more when another closes", CorrectEdgeTest::noMore);
        Check.sentence("Range: cents (1 .. 1,000,000,000)", CorrectEdgeTest::centsRange);
        Check.sentence("Meaning: no room", CorrectEdgeTest::room);
        Check.sentence("the first gets -cents, the second cents: the least and the most", CorrectEdgeTest::sums);
        Check.sentence("a batch of two lines that may be of the latest closed month", CorrectEdgeTest::twoLines);
        Check.sentence("a correction leaves 0 and 16 lines told as they are", CorrectEdgeTest::linesStay);
        Check.sentence("months close one behind the other from 0 on", CorrectEdgeTest::closeInOrder);
        Check.sentence("close, turn: all are", CorrectEdgeTest::closeAll);
        Check.sentence("close changes which months are closed, and nothing else", CorrectEdgeTest::closeAlone);
        Check.end("CorrectEdgeTest");
    }

    private static int other(int account) {
        return account == 3 ? 4 : 3;
    }

    private static void fromIndex() {
        Edges.index("correct from", 8, Setup::some, (x, v) -> x.correct(v, other(v), 0, 5, 1));
    }

    private static void toIndex() {
        Edges.index("correct to", 8, Setup::some, (x, v) -> x.correct(other(v), v, 0, 5, 1));
    }

    private static void areOne() {
        for (int from = 0; from < 8; from++) {
            for (int to = 0; to < 8; to++) {
                int a = from;
                int b = to;
                if (a == b) {
                    Check.refusedUnchanged("correct of account " + a + " alone", Check.INDEX, Setup::some,
                        x -> x.correct(a, b, 0, 5, 1));
                } else {
                    Check.due("correct from " + a + " to " + b, 0, new ShopLedger().correct(a, b, 0, 5, 1));
                }
            }
        }
    }

    private static void orderIndex() {
        Edges.index("correct of order", 8, Setup::some, (x, v) -> x.correct(0, 1, v, 5, 1));
    }

    private static void monthIndex() {
        Edges.index("correct of month", 12, Setup::open, (x, v) -> x.correct(0, 1, 0, v, 1));
        Edges.refused("correct of month", Check.INDEX, x -> Setup.close(x, 12),
            (x, v) -> x.correct(0, 1, 0, v, 1), -1, 12);
    }

    private static void turn() {
        for (int closed = 0; closed <= 12; closed++) {
            for (int month = 0; month < 12; month++) {
                ShopLedger x = new ShopLedger();
                Setup.close(x, closed);
                String call = "correct of month " + month + " with " + closed + " closed";
                int m = month;
                if (month < closed - 1) {
                    Check.refused(call, Check.TURN, () -> x.correct(0, 1, 0, m, 1));
                } else {
                    Check.due(call, 0, x.correct(0, 1, 0, month, 1));
                }
            }
        }
        Edges.refused("correct of month", Check.TURN, x -> {
            Setup.open(x);
            Setup.close(x, 12);
        }, (x, v) -> x.correct(0, 1, 0, v, 1), 0, 10);
    }

    private static void noMore() {
        ShopLedger x = new ShopLedger();
        for (int month = 0; month < 12; month++) {
            x.close();
            Check.due("correct of the month just closed", month, x.correct(0, 1, 0, month, 1));
            if (month > 0) {
                int before = month - 1;
                Check.refused("correct of the one before", Check.TURN, () -> x.correct(0, 1, 0, before, 1));
            }
        }
    }

    private static void centsRange() {
        Edges.range("correct by", 1, 1_000_000_000, Setup::some, (x, v) -> x.correct(0, 1, 0, 1, v));
        Edges.refused("correct by", Check.RANGE, Setup::some, (x, v) -> x.correct(0, 1, 0, 1, v),
            -1, -1_000_000_000, -1_000_000_001);
    }

    private static void room() {
        int[] taken = {197, 198};
        for (int entries : taken) {
            ShopLedger x = new ShopLedger();
            Setup.entries(x, entries);
            int batches = x.many(1);
            Check.due("correct behind " + entries, batches, x.correct(0, 1, 0, 0, 1));
            Check.due("entries", entries + 2, x.many(0));
        }
        int[] refused = {199, 200};
        for (int entries : refused) {
            Check.refusedUnchanged("correct behind " + entries, Check.MEANING, x -> Setup.entries(x, entries),
                x -> x.correct(0, 1, 0, 0, 1));
        }
    }

    private static void sums() {
        int[] sums = {1, 1_000_000_000};
        for (int cents : sums) {
            ShopLedger x = new ShopLedger();
            x.correct(7, 0, 7, 11, cents);
            Check.due("sum of the first", -cents, x.told(3, 0));
            Check.due("account of the first", 7, x.told(4, 0));
            Check.due("sum of the second", cents, x.told(3, 1));
            Check.due("account of the second", 0, x.told(4, 1));
            Check.due("balance of the first", -cents, x.told(0, 7));
            Check.due("balance of the second", cents, x.told(0, 0));
            Check.due("balance of the order", 0, x.told(1, 7));
            Check.due("balance of the month", 0, x.told(2, 11));
        }
    }

    private static void twoLines() {
        ShopLedger x = new ShopLedger();
        Setup.close(x, 12);
        Check.due("correct of the last month, closed", 0, x.correct(2, 6, 5, 11, 9));
        Check.due("entries", 2, x.many(0));
        Check.due("batches", 1, x.many(1));
        for (int k = 0; k < 2; k++) {
            Check.due("order of its entry", 5, x.told(5, k));
            Check.due("month of its entry", 11, x.told(6, k));
            Check.due("batch of its entry", 0, x.told(7, k));
        }
        Check.due("the next one's batch", 1, x.correct(6, 2, 5, 11, 9));
        Check.due("batch of its last entry", 1, x.told(7, 3));
        Check.due("balance behind both", 0, x.told(0, 2));
    }

    private static void linesStay() {
        ShopLedger x = new ShopLedger();
        x.correct(0, 1, 0, 0, 1);
        Check.due("no lines", 0, x.many(2));
        Setup.lines(x, 8);
        x.correct(0, 1, 0, 0, 1);
        Check.due("16 lines", 16, x.many(2));
        Check.due("put of them", 2, x.put());
        Check.due("entries", 20, x.many(0));
    }

    private static void closeInOrder() {
        ShopLedger x = new ShopLedger();
        Check.due("closed months of a new object", 0, x.many(3));
        for (int month = 0; month < 12; month++) {
            Check.due("close", month, x.close());
            Check.due("closed months", month + 1, x.many(3));
        }
    }

    private static void closeAll() {
        ShopLedger x = new ShopLedger();
        Setup.close(x, 11);
        Check.due("close of the last", 11, x.close());
        Check.refused("close when all are", Check.TURN, x::close);
        Check.refused("close once more", Check.TURN, x::close);
        Check.due("closed months", 12, x.many(3));
        Check.refusedUnchanged("close when all are", Check.TURN, y -> {
            Setup.open(y);
            Setup.close(y, 12);
        }, ShopLedger::close);
    }

    private static void closeAlone() {
        ShopLedger x = new ShopLedger();
        Setup.open(x);
        int[] counts = {4, 2, 3, 12, 2};
        Setup.close(x, 12);
        for (int what = 0; what < 5; what++) {
            Check.due("many(" + what + ") behind 12 closings", counts[what], x.many(what));
        }
        Check.due("balance of account 0", 700, x.told(0, 0));
        Check.due("balance of month 1", 700, x.told(2, 1));
        Check.due("share of order 2", 5, x.share(2, 7));
        Check.due("pieces in stock 1", 26, x.in(1, 0));
        Check.due("foreign by the second rate", 23_456, x.foreign(2, 200, 10_000));
        Check.due("opened of the first piece", 300, x.opened(0));
    }
}
