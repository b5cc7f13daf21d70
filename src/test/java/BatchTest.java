/** Promises 2, 3 and 4: line, put and drop. */
public final class BatchTest {
    public static void main(String[] args) {
        putNumbersAndEntries();
        putBehindRefusedOnes();
        drop();
        Check.end("BatchTest");
    }

    private static void putNumbersAndEntries() {
        ShopLedger x = new ShopLedger();
        x.line(1, 2, 3, 40);
        x.line(5, 6, 7, -30);
        x.line(1, 6, 9, -10);
        Check.due("first put", 0, x.put());
        Check.due("lines behind put", 0, x.many(2));
        x.line(0, 0, 0, 9);
        x.line(0, 0, 0, -9);
        Check.due("second put", 1, x.put());
        Check.due("entries", 5, x.many(0));
        Check.due("batches", 2, x.many(1));
        long[][] want = {
            {40, 1, 2, 3, 0}, {-30, 5, 6, 7, 0}, {-10, 1, 6, 9, 0}, {9, 0, 0, 0, 1}, {-9, 0, 0, 0, 1},
        };
        for (int k = 0; k < want.length; k++) {
            for (int what = 3; what < 8; what++) {
                Check.due("told(" + what + ", " + k + ")", want[k][what - 3], x.told(what, k));
            }
        }
        Check.refused("put again", Check.MEANING, x::put);
    }

    private static void putBehindRefusedOnes() {
        ShopLedger x = new ShopLedger();
        Check.refused("put of no lines", Check.MEANING, x::put);
        x.line(0, 0, 0, 1);
        Check.refused("put of one line", Check.MEANING, x::put);
        Check.due("lines behind a refused put", 0, x.many(2));
        Check.due("entries behind a refused put", 0, x.many(0));
        Check.due("batches behind a refused put", 0, x.many(1));
        Check.due("balance behind a refused put", 0, x.told(0, 0));
        Check.due("line behind a refused put", 1, x.line(0, 0, 0, 3));
        x.line(1, 1, 1, -3);
        Check.due("put behind a refused put", 0, x.put());
        Check.due("entries", 2, x.many(0));
    }

    private static void drop() {
        ShopLedger x = new ShopLedger();
        x.drop();
        Check.due("lines behind drop of none", 0, x.many(2));
        Setup.lines(x, 8);
        x.drop();
        Check.due("lines behind drop", 0, x.many(2));
        Check.refused("put behind drop", Check.MEANING, x::put);
        x.line(0, 0, 0, 4);
        x.drop();
        Check.due("line behind drop", 1, x.line(2, 0, 0, 7));
        x.line(3, 0, 0, -7);
        Check.due("put", 0, x.put());
        x.drop();
        Check.due("entries behind drop", 2, x.many(0));
        Check.due("the first entry's account", 2, x.told(4, 0));
    }
}
