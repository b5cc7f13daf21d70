/** Promises 2, 3 and 4: line, put and drop. */
public final class BatchTest {
    public static void main(String[] args) {
        lineCounts();
        lineEdges();
        lineRefused();
        lineOrderOfChecks();
        putNumbersAndEntries();
        putRefused();
        putClosedMonth();
        putOrderOfChecks();
        putRoom();
        drop();
        Check.end("BatchTest");
    }

    private static void lineCounts() {
        ShopLedger x = new ShopLedger();
        for (int i = 1; i <= 16; i++) {
            Check.due("line " + i, i, x.line(0, 0, 0, i));
            Check.due("many(2)", i, x.many(2));
        }
        Check.refused("line 17", Check.TURN, () -> x.line(0, 0, 0, 1));
        Check.due("many(2) of a full batch", 16, x.many(2));
        Check.due("many(0) before put", 0, x.many(0));
        Check.due("told(0, 0) before put", 0, x.told(0, 0));
    }

    private static void lineEdges() {
        ShopLedger x = new ShopLedger();
        Check.due("line of the first", 1, x.line(0, 0, 0, 1_000_000_000));
        Check.due("line of the last", 2, x.line(7, 7, 11, -1_000_000_000));
        Check.due("line of one cent", 3, x.line(7, 0, 11, 1));
        Check.due("line of one cent less", 4, x.line(0, 7, 0, -1));
        Check.due("put", 0, x.put());
        Check.due("the largest sum", 1_000_000_000, x.told(3, 0));
        Check.due("the smallest sum", -1_000_000_000, x.told(3, 1));
    }

    private static void lineRefused() {
        int[][] wrongIndexes = {
            {8, 0, 0}, {-1, 0, 0}, {0, 8, 0}, {0, -1, 0}, {0, 0, 12}, {0, 0, -1},
            {Integer.MIN_VALUE, 0, 0}, {0, Integer.MAX_VALUE, 0}, {0, 0, Integer.MAX_VALUE},
        };
        for (int[] w : wrongIndexes) {
            Check.refusedUnchanged("line of no such index", Check.INDEX, Setup::some,
                x -> x.line(w[0], w[1], w[2], 1));
        }
        int[] wrongSums = {0, 1_000_000_001, -1_000_000_001, Integer.MAX_VALUE, Integer.MIN_VALUE};
        for (int cents : wrongSums) {
            Check.refusedUnchanged("line of " + cents, Check.RANGE, Setup::some, x -> x.line(7, 7, 11, cents));
        }
        Check.refusedUnchanged("line 17", Check.TURN, x -> Setup.lines(x, 8), x -> x.line(0, 0, 0, 1));
    }

    private static void lineOrderOfChecks() {
        ShopLedger x = new ShopLedger();
        Check.refused("line of no index and sum", Check.INDEX, () -> x.line(0, 0, 12, 0));
        Setup.lines(x, 8);
        Check.refused("full: line of no account", Check.INDEX, () -> x.line(8, 0, 0, 1));
        Check.refused("full: line of no order", Check.INDEX, () -> x.line(0, -1, 0, 1));
        Check.refused("full: line of no month", Check.INDEX, () -> x.line(0, 0, 12, 0));
        Check.refused("full: line of no sum", Check.TURN, () -> x.line(0, 0, 0, 0));
    }

    private static void putNumbersAndEntries() {
        ShopLedger x = new ShopLedger();
        x.line(1, 2, 3, 40);
        x.line(5, 6, 7, -30);
        x.line(1, 6, 9, -10);
        Check.due("first put", 0, x.put());
        Check.due("lines behind put", 0, x.many(2));
        x.line(0, 0, 0, 9);
        x.line(0, 0, 0, -9);
        Check.due("second put", 1, x.put());
        Check.due("entries", 5, x.many(0));
        Check.due("batches", 2, x.many(1));
        long[][] want = {
            {40, 1, 2, 3, 0}, {-30, 5, 6, 7, 0}, {-10, 1, 6, 9, 0}, {9, 0, 0, 0, 1}, {-9, 0, 0, 0, 1},
        };
        for (int k = 0; k < want.length; k++) {
            for (int what = 3; what < 8; what++) {
                Check.due("told(" + what + ", " + k + ")", want[k][what - 3], x.told(what, k));
            }
        }
        Check.refused("put again", Check.MEANING, x::put);
    }

    private static void putRefused() {
        ShopLedger x = new ShopLedger();
        Check.refused("put of no lines", Check.MEANING, x::put);
        x.line(0, 0, 0, 1);
        Check.refused("put of one line", Check.MEANING, x::put);
        Check.due("lines behind a refused put", 0, x.many(2));
        Check.due("entries behind a refused put", 0, x.many(0));
        Check.due("batches behind a refused put", 0, x.many(1));
        Check.due("balance behind a refused put", 0, x.told(0, 0));
        Check.due("line behind a refused put", 1, x.line(0, 0, 0, 3));
        x.line(1, 1, 1, -3);
        Check.due("put behind a refused put", 0, x.put());
        Check.due("entries", 2, x.many(0));
        sumsThatWrapAround();
    }

    /** 16 sums of 2^28 are 2^32: nothing in 32 bits, yet not nothing. */
    private static void sumsThatWrapAround() {
        ShopLedger x = new ShopLedger();
        for (int i = 0; i < 16; i++) {
            x.line(0, 0, 0, 1 << 28);
        }
        Check.refused("put of 2^32", Check.MEANING, x::put);
        for (int i = 0; i < 16; i++) {
            x.line(i % 8, 0, 0, i < 8 ? 1_000_000_000 : -1_000_000_000);
        }
        Check.due("put of sums that pass 2^32", 0, x.put());
    }

    private static void putClosedMonth() {
        ShopLedger x = new ShopLedger();
        x.line(0, 0, 1, 5);
        x.line(1, 0, 0, -5);
        x.close();
        Check.refused("put of a month closed since", Check.TURN, x::put);
        Check.due("lines behind it", 0, x.many(2));
        Check.due("entries behind it", 0, x.many(0));
        Check.due("batches behind it", 0, x.many(1));
        Check.due("line of a closed month", 1, x.line(0, 0, 0, 5));
        x.line(0, 0, 1, -5);
        Check.refused("put of the latest closed month", Check.TURN, x::put);
        x.line(0, 0, 1, 5);
        x.line(0, 0, 11, -5);
        Check.due("put of open months", 0, x.put());
        Setup.close(x, 11);
        x.line(0, 0, 11, 5);
        x.line(1, 0, 11, -5);
        Check.refused("put when all are closed", Check.TURN, x::put);
        Check.refused("put of no lines when all are closed", Check.MEANING, x::put);
    }

    private static void putOrderOfChecks() {
        ShopLedger x = new ShopLedger();
        x.close();
        x.line(0, 0, 11, 5);
        x.line(0, 0, 0, 5);
        Check.refused("put of a closed month and no nothing", Check.TURN, x::put);
        Setup.corrections(x, 100);
        x.line(0, 0, 0, 5);
        x.line(0, 0, 5, -5);
        Check.refused("put of a closed month without room", Check.TURN, x::put);
    }

    private static void putRoom() {
        ShopLedger x = new ShopLedger();
        for (int batch = 0; batch < 12; batch++) {
            Setup.lines(x, 8);
            Check.due("put of 16 lines", batch, x.put());
        }
        Check.due("entries", 192, x.many(0));
        Setup.lines(x, 5);
        Check.refused("put of ten lines where eight have room", Check.MEANING, x::put);
        Check.due("lines are gone", 0, x.many(2));
        Check.due("none of them is put", 192, x.many(0));
        Setup.lines(x, 4);
        Check.due("put of eight lines", 12, x.put());
        Check.due("entries", 200, x.many(0));
        Check.due("the last entry's sum", -4, x.told(3, 199));
        Check.due("the last entry's batch", 12, x.told(7, 199));
        Check.refused("told(3, 200)", Check.INDEX, () -> x.told(3, 200));
        Setup.lines(x, 1);
        Check.refused("put when full", Check.MEANING, x::put);
        Check.due("entries", 200, x.many(0));
        Check.due("batches", 13, x.many(1));
    }

    private static void drop() {
        ShopLedger x = new ShopLedger();
        x.drop();
        Check.due("lines behind drop of none", 0, x.many(2));
        Setup.lines(x, 8);
        x.drop();
        Check.due("lines behind drop", 0, x.many(2));
        Check.refused("put behind drop", Check.MEANING, x::put);
        x.line(0, 0, 0, 4);
        x.drop();
        Check.due("line behind drop", 1, x.line(2, 0, 0, 7));
        x.line(3, 0, 0, -7);
        Check.due("put", 0, x.put());
        x.drop();
        Check.due("entries behind drop", 2, x.many(0));
        Check.due("the first entry's account", 2, x.told(4, 0));
    }
}
