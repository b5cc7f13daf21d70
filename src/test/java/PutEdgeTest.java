/** Promises 3 and 4: each boundary case of put and drop has a test of its own. */
public final class PutEdgeTest {
    public static void main(String[] args) {
        Check.sentence("Turn: a line's month is closed, whichever line it is", PutEdgeTest::anyLineClosed);
        Check.sentence("Turn: a line's month is closed, up to the latest and no later one", PutEdgeTest::eachMonth);
        Check.sentence("Turn: a month that closed behind the line", PutEdgeTest::closedSince);
        Check.sentence("meaning: there are no lines", PutEdgeTest::noLines);
        Check.sentence("meaning: they do not sum to nothing, by one cent", PutEdgeTest::oneCent);
        Check.sentence("meaning: they do not sum to nothing, one line alone", PutEdgeTest::oneLine);
        Check.sentence("meaning: they do not sum to nothing, though they wrap to it", PutEdgeTest::wrapped);
        Check.sentence("lines that sum to nothing over sums that pass 32 bits", PutEdgeTest::largestSums);
        Check.sentence("the sum is of the lines together, not by account, order or month",
            PutEdgeTest::sumOfAllTogether);
        Check.sentence("meaning: no room, for each number of lines", PutEdgeTest::room);
        Check.sentence("at most 200 are kept: all 200 stay as they were put", PutEdgeTest::allTwoHundred);
        Check.sentence("else none does: a refused batch leaves no entry", PutEdgeTest::noneOfThem);
        Check.sentence("in each case the lines are gone then", PutEdgeTest::linesAreGone);
        Check.sentence("A batch that is put has a number, 0, 1, ..; a refused one has none", PutEdgeTest::numbers);
        Check.sentence("drop forgets none, one and 16 lines", PutEdgeTest::drop);
        Check.sentence("drop forgets nothing but the lines", PutEdgeTest::dropLeavesTheRest);
        Check.end("PutEdgeTest");
    }

    private static void anyLineClosed() {
        for (int place = 0; place < 16; place++) {
            ShopLedger x = new ShopLedger();
            x.close();
            for (int i = 0; i < 16; i++) {
                x.line(0, 0, i == place ? 0 : 1, i % 2 == 0 ? 5 : -5);
            }
            Check.refused("put with line " + place + " of a closed month", Check.TURN, x::put);
            Check.due("entries", 0, x.many(0));
        }
    }

    private static void eachMonth() {
        for (int closed = 0; closed <= 12; closed++) {
            for (int month = 0; month < 12; month++) {
                ShopLedger x = new ShopLedger();
                Setup.close(x, closed);
                x.line(0, 0, month, 5);
                x.line(1, 0, month, -5);
                String call = "put in month " + month + " with " + closed + " closed";
                if (month < closed) {
                    Check.refused(call, Check.TURN, x::put);
                } else {
                    Check.due(call, 0, x.put());
                }
            }
        }
    }

    private static void closedSince() {
        ShopLedger x = new ShopLedger();
        x.line(0, 0, 0, 5);
        x.line(1, 0, 1, -5);
        x.close();
        Check.refused("put of a month closed since", Check.TURN, x::put);
        x.line(0, 0, 1, 5);
        x.line(1, 0, 1, -5);
        Check.due("put of the month that is open", 0, x.put());
    }

    private static void noLines() {
        ShopLedger x = new ShopLedger();
        Check.refused("put of a new object", Check.MEANING, x::put);
        Setup.tell(x, 2);
        x.put();
        Check.refused("put behind a put", Check.MEANING, x::put);
        Setup.tell(x, 2);
        x.drop();
        Check.refused("put behind a drop", Check.MEANING, x::put);
        Setup.close(x, 12);
        Check.refused("put of no lines with all months closed", Check.MEANING, x::put);
        Check.refusedUnchanged("put of no lines", Check.MEANING, y -> Setup.entries(y, 199), ShopLedger::put);
    }

    private static void oneCent() {
        for (int over = -1; over <= 1; over++) {
            ShopLedger x = new ShopLedger();
            x.line(0, 0, 0, 999_999_999);
            x.line(0, 0, 0, over - 999_999_999);
            if (over == 0) {
                Check.due("put of nothing", 0, x.put());
            } else {
                Check.refused("put of " + over + " cent", Check.MEANING, x::put);
            }
        }
    }

    private static void oneLine() {
        int[] sums = {1, -1, 1_000_000_000, -1_000_000_000};
        for (int sum : sums) {
            ShopLedger x = new ShopLedger();
            x.line(0, 0, 0, sum);
            Check.refused("put of one line of " + sum, Check.MEANING, x::put);
        }
    }

    /** Multiples of 2^31 and 2^32, of which 32 bits, or all but the sign, keep nothing. */
    private static void wrapped() {
        int[][] linesAndSums = {{8, 1 << 28}, {16, 1 << 28}, {8, -(1 << 28)}, {16, -(1 << 28)}, {8, 1 << 29}};
        for (int[] row : linesAndSums) {
            ShopLedger x = new ShopLedger();
            for (int i = 0; i < row[0]; i++) {
                x.line(i % 8, 0, 0, row[1]);
            }
            Check.refused("put of " + row[0] + " times " + row[1], Check.MEANING, x::put);
            Check.due("entries", 0, x.many(0));
        }
    }

    private static void largestSums() {
        ShopLedger x = new ShopLedger();
        for (int i = 0; i < 16; i++) {
            x.line(0, i < 8 ? 0 : 1, 0, i < 8 ? 1_000_000_000 : -1_000_000_000);
        }
        Check.due("put of eight billions there and back", 0, x.put());
        Check.due("balance of the one order", 8_000_000_000L, x.told(1, 0));
        Check.due("balance of the other", -8_000_000_000L, x.told(1, 1));
    }

    private static void sumOfAllTogether() {
        ShopLedger x = new ShopLedger();
        x.line(0, 1, 2, 30);
        x.line(3, 4, 5, -20);
        x.line(6, 7, 8, -10);
        Check.due("put of lines that share nothing", 0, x.put());
        Check.due("balance of account 3", -20, x.told(0, 3));
        Check.due("balance of order 7", -10, x.told(1, 7));
        Check.due("balance of month 2", 30, x.told(2, 2));
    }

    private static void room() {
        for (int lines = 2; lines <= 16; lines++) {
            ShopLedger x = new ShopLedger();
            Setup.entries(x, 200 - lines);
            int batches = x.many(1);
            Setup.tell(x, lines);
            Check.due("put of " + lines + " lines that fill the books", batches, x.put());
            Check.due("entries", 200, x.many(0));
            ShopLedger y = new ShopLedger();
            Setup.entries(y, 201 - lines);
            Setup.tell(y, lines);
            Check.refused("put of " + lines + " lines, one too many", Check.MEANING, y::put);
            Check.due("entries", 201 - lines, y.many(0));
        }
        ShopLedger x = new ShopLedger();
        Setup.entries(x, 200);
        Setup.tell(x, 2);
        Check.refused("put when full", Check.MEANING, x::put);
        Setup.tell(x, 16);
        Check.refused("put of 16 when full", Check.MEANING, x::put);
        Check.due("entries", 200, x.many(0));
    }

    /** 1,000 facts are more than one object can be asked: each fact has its own. */
    private static void allTwoHundred() {
        for (int what = 3; what < 8; what++) {
            ShopLedger x = new ShopLedger();
            for (int batch = 0; batch < 13; batch++) {
                for (int i = 0; i < (batch < 12 ? 16 : 8); i++) {
                    int k = 16 * batch + i;
                    x.line(k % 8, k / 8 % 8, k % 12, k % 2 == 0 ? 1 + k : -k);
                }
                Check.due("put " + batch, batch, x.put());
            }
            for (int k = 0; k < 200; k++) {
                long[] want = {k % 2 == 0 ? 1 + k : -k, k % 8, k / 8 % 8, k % 12, k / 16};
                Check.due("told(" + what + ", " + k + ")", want[what - 3], x.told(what, k));
            }
        }
    }

    private static void noneOfThem() {
        ShopLedger x = new ShopLedger();
        x.close();
        x.line(0, 0, 1, 5);
        x.line(1, 1, 1, -4);
        x.line(2, 2, 0, -1);
        Check.refused("put with the last line closed", Check.TURN, x::put);
        x.line(0, 0, 1, 5);
        x.line(1, 1, 1, -5);
        x.line(2, 2, 1, 1);
        Check.refused("put with a last line too much", Check.MEANING, x::put);
        Check.due("entries", 0, x.many(0));
        Check.due("batches", 0, x.many(1));
        for (int k = 0; k < 3; k++) {
            Check.due("balance of an account", 0, x.told(0, k));
            Check.due("balance of an order", 0, x.told(1, k));
            Check.due("balance of a month", 0, x.told(2, k));
        }
    }

    private static void linesAreGone() {
        ShopLedger x = new ShopLedger();
        x.close();
        Setup.tell(x, 16);
        x.put();
        gone("a put", x);
        x.line(0, 0, 0, 7);
        x.line(0, 0, 1, -7);
        Check.refused("put of a closed month", Check.TURN, x::put);
        gone("a put of a closed month", x);
        x.line(0, 0, 1, 7);
        Check.refused("put of 7 cents", Check.MEANING, x::put);
        gone("a put of 7 cents", x);
        Check.refused("put of no lines", Check.MEANING, x::put);
        gone("a put of no lines", x);
        Setup.corrections(x, (200 - x.many(0)) / 2);
        Setup.tell(x, 3);
        Check.refused("put without room", Check.MEANING, x::put);
        gone("a put without room", x);
    }

    private static void gone(String behind, ShopLedger x) {
        Check.due("lines behind " + behind, 0, x.many(2));
        Check.refused("put behind " + behind, Check.MEANING, x::put);
        Check.due("line behind " + behind, 1, x.line(2, 3, 4, 6));
        if (x.many(0) < 200) {
            x.line(3, 3, 4, -6);
            int entries = x.many(0);
            Check.taken("put behind " + behind, x::put);
            Check.due("entries of it", entries + 2, x.many(0));
            Check.due("the sum of its first", 6, x.told(3, entries));
        }
        x.drop();
    }

    private static void numbers() {
        ShopLedger x = new ShopLedger();
        for (int batch = 0; batch < 20; batch++) {
            x.line(0, 0, 0, 1);
            Check.refused("put of one cent", Check.MEANING, x::put);
            Check.due("batches behind a refused put", batch, x.many(1));
            Setup.tell(x, 2);
            Check.due("put", batch, x.put());
            Check.due("batch of the last entry", batch, x.told(7, 2 * batch + 1));
        }
        Check.due("correct takes the next number", 20, x.correct(0, 1, 0, 0, 1));
        Check.due("reverse takes the next number", 21, x.reverse(0, 0));
        Setup.tell(x, 2);
        Check.due("put takes the next number", 22, x.put());
    }

    private static void drop() {
        int[] numbers = {0, 1, 16};
        for (int number : numbers) {
            ShopLedger x = new ShopLedger();
            for (int i = 0; i < number; i++) {
                x.line(1, 1, 1, 5);
            }
            x.drop();
            Check.due("lines behind a drop of " + number, 0, x.many(2));
            x.drop();
            Check.due("lines behind a second drop", 0, x.many(2));
            Check.refused("put behind it", Check.MEANING, x::put);
            Check.due("line behind it", 1, x.line(2, 2, 2, 8));
            x.line(3, 3, 3, -8);
            Check.due("put of the new lines alone", 0, x.put());
            Check.due("entries", 2, x.many(0));
            Check.due("account of the first", 2, x.told(4, 0));
            Check.due("balance of a dropped line's account", 0, x.told(0, 1));
        }
    }

    private static void dropLeavesTheRest() {
        String without = Telling.behind(x -> {
            Setup.some(x);
            x.drop();
        });
        String again = Telling.behind(x -> {
            Setup.some(x);
            x.drop();
            x.line(7, 7, 7, 7);
            x.drop();
        });
        Check.same("what is told behind a second drop", without, again);
        ShopLedger x = new ShopLedger();
        Setup.some(x);
        x.drop();
        int[] counts = {4, 2, 0, 2, 2};
        for (int what = 0; what < 5; what++) {
            Check.due("many(" + what + ") behind drop", counts[what], x.many(what));
        }
        Check.due("balance of account 0", 700, x.told(0, 0));
        Check.due("pieces in stock 1", 26, x.in(1, 0));
    }
}
