/** Promise 2, line by line of the document: each boundary case of line has a test of its own. */
public final class LineEdgeTest {
    public static void main(String[] args) {
        Check.sentence("Index: no such account", LineEdgeTest::accountIndex);
        Check.sentence("Index: no such order", LineEdgeTest::orderIndex);
        Check.sentence("Index: no such month", LineEdgeTest::monthIndex);
        Check.sentence("Turn: there are 16", LineEdgeTest::sixteen);
        Check.sentence("at most 16 lines: a batch that is put or dropped has room for 16 again",
            LineEdgeTest::sixteenAgain);
        Check.sentence("Range: the sum (-1,000,000,000 .. 1,000,000,000)", LineEdgeTest::sumRange);
        Check.sentence("Range: the sum (not 0)", LineEdgeTest::sumNotNothing);
        Check.sentence("One more line: how many", LineEdgeTest::howMany);
        Check.sentence("a line of a closed month can be told: put refuses it", LineEdgeTest::closedMonth);
        Check.sentence("a line is no entry before it is put", LineEdgeTest::noEntry);
        Check.sentence("a line can be told when the books are full: put refuses it", LineEdgeTest::fullBooks);
        Check.sentence("ACCOUNTS 0 .. 7", LineEdgeTest::accounts);
        Check.sentence("ORDERS 0 .. 7", LineEdgeTest::orders);
        Check.sentence("MONTHS 0 .. 11", LineEdgeTest::months);
        Check.sentence("the largest and the smallest sum become entries as they are", LineEdgeTest::largestSums);
        Check.end("LineEdgeTest");
    }

    private static void accountIndex() {
        Edges.index("line's account", 8, Setup::some, (x, v) -> x.line(v, 3, 5, 1));
    }

    private static void orderIndex() {
        Edges.index("line's order", 8, Setup::some, (x, v) -> x.line(3, v, 5, 1));
    }

    private static void monthIndex() {
        Edges.index("line's month", 12, Setup::some, (x, v) -> x.line(3, 3, v, 1));
    }

    private static void sixteen() {
        ShopLedger x = new ShopLedger();
        Setup.tell(x, 15);
        Check.due("line 16", 16, x.line(0, 0, 0, 1));
        Check.refused("line 17", Check.TURN, () -> x.line(0, 0, 0, 1));
        Check.refused("line 17 again", Check.TURN, () -> x.line(0, 0, 0, 1));
        Check.due("lines", 16, x.many(2));
        Check.refusedUnchanged("line 17", Check.TURN, y -> Setup.lines(y, 8), y -> y.line(1, 2, 3, 4));
        Check.refusedUnchanged("line 17 of a smallest sum", Check.TURN, y -> Setup.lines(y, 8),
            y -> y.line(7, 7, 11, -1_000_000_000));
    }

    private static void sixteenAgain() {
        ShopLedger x = new ShopLedger();
        Setup.tell(x, 16);
        x.put();
        fullOnceMore("behind a put", x);
        x.drop();
        fullOnceMore("behind a drop", x);
    }

    private static void fullOnceMore(String where, ShopLedger x) {
        for (int i = 1; i <= 16; i++) {
            Check.due("line " + i + " " + where, i, x.line(0, 0, 0, 1));
        }
        Check.refused("line 17 " + where, Check.TURN, () -> x.line(0, 0, 0, 1));
        Check.refused("put of 16 cents", Check.MEANING, x::put);
        for (int i = 1; i <= 16; i++) {
            Check.due("line " + i + " behind a refused put", i, x.line(0, 0, 0, 1));
        }
        Check.refused("line 17 behind a refused put", Check.TURN, () -> x.line(0, 0, 0, 1));
    }

    private static void sumRange() {
        Edges.range("line's sum", -1_000_000_000, 1_000_000_000, Setup::some, (x, v) -> x.line(0, 0, 5, v));
    }

    private static void sumNotNothing() {
        Edges.taken("line's sum", Setup::some, (x, v) -> x.line(7, 7, 11, v), -1, 1);
        Edges.refused("line's sum", Check.RANGE, Setup::some, (x, v) -> x.line(7, 7, 11, v), 0);
    }

    private static void howMany() {
        ShopLedger x = new ShopLedger();
        Check.due("lines of a new object", 0, x.many(2));
        for (int i = 1; i <= 16; i++) {
            Check.due("line " + i, i, x.line(i % 8, i % 8, i % 12, i));
            Check.due("many(2)", i, x.many(2));
            Check.refused("a line that is refused", Check.INDEX, () -> x.line(8, 0, 0, 1));
            Check.due("many(2) behind a refused line", i, x.many(2));
        }
    }

    private static void closedMonth() {
        ShopLedger x = new ShopLedger();
        Setup.close(x, 12);
        for (int month = 0; month < 12; month++) {
            Check.due("line of closed month " + month, month + 1, x.line(0, 0, month, 1));
        }
    }

    private static void noEntry() {
        ShopLedger x = new ShopLedger();
        Setup.tell(x, 16);
        Check.due("entries", 0, x.many(0));
        Check.due("batches", 0, x.many(1));
        Check.due("balance of the account", 0, x.told(0, 0));
        Check.due("balance of the order", 0, x.told(1, 0));
        Check.due("balance of the month", 0, x.told(2, 11));
        Check.refused("an entry", Check.INDEX, () -> x.told(3, 0));
    }

    private static void fullBooks() {
        ShopLedger x = new ShopLedger();
        Setup.entries(x, 200);
        for (int i = 1; i <= 16; i++) {
            Check.due("line " + i + " when full", i, x.line(0, 0, 0, 1));
        }
    }

    /** The last one of them takes what the others sum to, turned round; each sum is another one. */
    private static void accounts() {
        ShopLedger x = new ShopLedger();
        for (int account = 0; account < 7; account++) {
            x.line(account, 0, 0, 1 << account);
        }
        x.line(7, 0, 0, -127);
        x.put();
        for (int account = 0; account < 8; account++) {
            Check.due("balance of account " + account, account == 7 ? -127 : 1 << account, x.told(0, account));
            Check.due("account of entry " + account, account, x.told(4, account));
        }
    }

    private static void orders() {
        ShopLedger x = new ShopLedger();
        for (int order = 0; order < 7; order++) {
            x.line(0, order, 0, 1 << order);
        }
        x.line(0, 7, 0, -127);
        x.put();
        for (int order = 0; order < 8; order++) {
            Check.due("balance of order " + order, order == 7 ? -127 : 1 << order, x.told(1, order));
            Check.due("order of entry " + order, order, x.told(5, order));
        }
    }

    private static void months() {
        ShopLedger x = new ShopLedger();
        for (int month = 0; month < 11; month++) {
            x.line(0, 0, month, 1 << month);
        }
        x.line(0, 0, 11, -2047);
        x.put();
        for (int month = 0; month < 12; month++) {
            Check.due("balance of month " + month, month == 11 ? -2047 : 1 << month, x.told(2, month));
            Check.due("month of entry " + month, month, x.told(6, month));
        }
    }

    private static void largestSums() {
        ShopLedger x = new ShopLedger();
        int[] sums = {1_000_000_000, -1_000_000_000, 999_999_999, -999_999_999, 1, -1};
        for (int sum : sums) {
            x.line(0, 0, 0, sum);
        }
        x.put();
        for (int k = 0; k < sums.length; k++) {
            Check.due("sum of entry " + k, sums[k], x.told(3, k));
        }
    }
}
