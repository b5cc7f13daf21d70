/** Promises 5 and 7: correct and close. */
public final class CorrectTest {
    public static void main(String[] args) {
        entries();
        linesStay();
        months();
        refused();
        orderOfChecks();
        room();
        close();
        Check.end("CorrectTest");
    }

    private static void entries() {
        ShopLedger x = new ShopLedger();
        Check.due("correct", 0, x.correct(7, 0, 5, 3, 1_000_000_000));
        Check.due("correct", 1, x.correct(0, 7, 0, 11, 1));
        long[][] want = {
            {-1_000_000_000, 7, 5, 3, 0}, {1_000_000_000, 0, 5, 3, 0}, {-1, 0, 0, 11, 1}, {1, 7, 0, 11, 1},
        };
        for (int k = 0; k < want.length; k++) {
            for (int what = 3; what < 8; what++) {
                Check.due("told(" + what + ", " + k + ")", want[k][what - 3], x.told(what, k));
            }
        }
        Check.due("balance of from", -999_999_999, x.told(0, 7));
        Check.due("balance of to", 999_999_999, x.told(0, 0));
        Check.due("balance of the order", 0, x.told(1, 5));
        Check.due("balance of the month", 0, x.told(2, 3));
        Check.due("batches", 2, x.many(1));
    }

    private static void linesStay() {
        ShopLedger x = new ShopLedger();
        x.line(2, 2, 2, 6);
        x.line(3, 3, 3, -6);
        x.correct(0, 1, 0, 0, 4);
        Check.due("lines behind correct", 2, x.many(2));
        Check.due("put behind correct", 1, x.put());
        Check.due("the lines' entry", 6, x.told(3, 2));
    }

    private static void months() {
        ShopLedger x = new ShopLedger();
        Setup.close(x, 3);
        Check.refused("correct of month 0", Check.TURN, () -> x.correct(0, 1, 0, 0, 1));
        Check.refused("correct of month 1", Check.TURN, () -> x.correct(0, 1, 0, 1, 1));
        Check.due("correct of the latest closed", 0, x.correct(0, 1, 0, 2, 1));
        Check.due("correct of the first open", 1, x.correct(0, 1, 0, 3, 1));
        Check.due("correct of the last", 2, x.correct(0, 1, 0, 11, 1));
        Setup.close(x, 9);
        Check.refused("correct of month 10 of 12", Check.TURN, () -> x.correct(0, 1, 0, 10, 1));
        Check.due("correct of month 11 of 12", 3, x.correct(0, 1, 0, 11, 1));
    }

    private static void refused() {
        int[][] wrongIndexes = {
            {8, 0, 0, 5}, {-1, 0, 0, 5}, {0, 8, 0, 5}, {0, -1, 0, 5}, {3, 3, 0, 5}, {0, 1, 8, 5}, {0, 1, -1, 5},
            {0, 1, 0, 12}, {0, 1, 0, -1}, {8, 8, 0, 5}, {Integer.MAX_VALUE, 0, 0, 5}, {0, 1, Integer.MIN_VALUE, 5},
        };
        for (int[] w : wrongIndexes) {
            Check.refusedUnchanged("correct of no such index", Check.INDEX, Setup::some,
                x -> x.correct(w[0], w[1], w[2], w[3], 1));
        }
        Check.refusedUnchanged("correct of a closed month", Check.TURN, Setup::some,
            x -> x.correct(0, 1, 0, 0, 1));
        int[] wrongSums = {0, -1, 1_000_000_001, Integer.MIN_VALUE, Integer.MAX_VALUE, -1_000_000_000};
        for (int cents : wrongSums) {
            Check.refusedUnchanged("correct of " + cents, Check.RANGE, Setup::some,
                x -> x.correct(0, 1, 0, 1, cents));
        }
        Check.refusedUnchanged("correct without room", Check.MEANING, x -> Setup.corrections(x, 100),
            x -> x.correct(0, 1, 0, 0, 1));
    }

    private static void orderOfChecks() {
        ShopLedger x = new ShopLedger();
        Setup.corrections(x, 100);
        Setup.close(x, 2);
        Check.refused("index before turn", Check.INDEX, () -> x.correct(2, 2, 0, 0, 0));
        Check.refused("index before turn", Check.INDEX, () -> x.correct(0, 1, 8, 0, 0));
        Check.refused("turn before range", Check.TURN, () -> x.correct(0, 1, 0, 0, 0));
        Check.refused("range before meaning", Check.RANGE, () -> x.correct(0, 1, 0, 1, 0));
        Check.refused("meaning", Check.MEANING, () -> x.correct(0, 1, 0, 1, 1));
    }

    /** Two by two with a batch of three: 199 entries have room for one more, and so for none. */
    private static void room() {
        ShopLedger x = new ShopLedger();
        x.line(0, 0, 0, 2);
        x.line(0, 0, 0, -1);
        x.line(0, 0, 0, -1);
        x.put();
        Setup.corrections(x, 98);
        Check.due("entries", 199, x.many(0));
        Check.refused("correct at 199", Check.MEANING, () -> x.correct(0, 1, 0, 0, 1));
        Check.due("entries", 199, x.many(0));
        Check.due("batches", 99, x.many(1));
        ShopLedger y = new ShopLedger();
        Setup.corrections(y, 99);
        Check.due("the correction that fills the books", 99, y.correct(0, 1, 0, 0, 1));
        Check.due("entries", 200, y.many(0));
        Check.refused("correct at 200", Check.MEANING, () -> y.correct(0, 1, 0, 0, 1));
        Check.due("batches", 100, y.many(1));
    }

    private static void close() {
        ShopLedger x = new ShopLedger();
        for (int month = 0; month < 12; month++) {
            Check.due("many(3)", month, x.many(3));
            Check.due("close", month, x.close());
        }
        Check.due("many(3)", 12, x.many(3));
        Check.refused("close of no more", Check.TURN, x::close);
        Check.due("many(3)", 12, x.many(3));
        ShopLedger y = new ShopLedger();
        Setup.lines(y, 2);
        y.close();
        Check.due("lines behind close", 4, y.many(2));
        Check.refusedUnchanged("close of no more", Check.TURN, z -> Setup.close(z, 12), z -> z.close());
    }
}
