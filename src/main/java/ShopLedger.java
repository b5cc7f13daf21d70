/**
 * A shop's books of two sides: entries by order and month that sum to nothing, batches that are put
 * in all or none, costs shared by exact weights to the cent, stocks in layers that leave in order,
 * closed months with corrections alone, reversals, foreign sums by day, results of an order opened
 * to its pieces.
 *
 * Every row is made in the constructor and used again. A call makes all of its checks before its
 * first change, so that what is refused changes nothing; put alone forgets the lines first.
 */
public final class ShopLedger {
    private static final int ACCOUNTS = 8;
    private static final int ORDERS = 8;
    private static final int MONTHS = 12;
    private static final int ENTRIES = 200;
    private static final int LINES = 16;
    private static final int STOCKS = 4;
    private static final int LAYERS = 12;
    private static final int MONEYS = 3;
    private static final int RATES = 10;
    private static final int PIECES = 10;

    private static final int MOST_CENTS = 1_000_000_000;
    private static final int MOST_WEIGHT = 1_000_000;
    private static final int MOST_STOCK_PIECES = 1_000_000;
    private static final int MOST_PIECE_CENTS = 1_000_000;
    private static final int LAST_DAY = 365;
    private static final int MOST_RATE = 100_000_000;
    private static final int MOST_UNITS = 1_000_000_000;
    private static final long RATE_UNITS = 10_000L;

    private final Lines lines;
    private final Books books;
    private final int[] weights;
    private final Stock[] stocks;
    private final Money[] moneys;
    private final Pieces pieces;
    /** Months close from 0 on, so their number tells which ones they are. */
    private int closed;

    public ShopLedger() {
        lines = new Lines();
        books = new Books();
        weights = new int[ORDERS];
        stocks = new Stock[STOCKS];
        for (int i = 0; i < STOCKS; i++) {
            stocks[i] = new Stock();
        }
        moneys = new Money[MONEYS];
        for (int i = 0; i < MONEYS; i++) {
            moneys[i] = new Money();
        }
        pieces = new Pieces();
        closed = 0;
    }

    public int line(int account, int order, int month, int cents)
            throws IndexOutOfBoundsException, IllegalStateException, IllegalArgumentException {
        checkIndex(account, ACCOUNTS);
        checkIndex(order, ORDERS);
        checkIndex(month, MONTHS);
        checkTurn(lines.count < LINES);
        checkRange(cents, -MOST_CENTS, MOST_CENTS);
        if (cents == 0) {
            throw new IllegalArgumentException("a line's sum is not 0");
        }
        return lines.add(account, order, month, cents);
    }

    public int put() throws IllegalStateException, UnsupportedOperationException {
        int told = lines.count;
        // The lines are gone also when this throws; their rows still hold them until the next line.
        lines.count = 0;
        checkTurn(!lines.anyBefore(closed, told));
        if (told == 0 || lines.sum(told) != 0) {
            throw new UnsupportedOperationException("a batch has lines that sum to nothing");
        }
        checkRoom(told);
        for (int i = 0; i < told; i++) {
            books.enter(lines.account[i], lines.order[i], lines.month[i], lines.cents[i]);
        }
        return books.endBatch();
    }

    public void drop() {
        lines.count = 0;
    }

    public int correct(int from, int to, int order, int month, int cents)
            throws IndexOutOfBoundsException, IllegalStateException, IllegalArgumentException,
            UnsupportedOperationException {
        checkIndex(from, ACCOUNTS);
        checkIndex(to, ACCOUNTS);
        if (from == to) {
            throw new IndexOutOfBoundsException("a correction is between two accounts");
        }
        checkIndex(order, ORDERS);
        checkIndex(month, MONTHS);
        checkTurn(month >= closed - 1);
        checkRange(cents, 1, MOST_CENTS);
        checkRoom(2);
        books.enter(from, order, month, -cents);
        books.enter(to, order, month, cents);
        return books.endBatch();
    }

    public int reverse(int batch, int month)
            throws IndexOutOfBoundsException, IllegalStateException, UnsupportedOperationException {
        checkIndex(batch, books.batches);
        checkIndex(month, MONTHS);
        checkTurn(month >= closed);
        if (books.fixed[batch]) {
            throw new UnsupportedOperationException("it was reversed, or is a reversal");
        }
        checkRoom(books.sizeOf(batch));
        return books.turnRound(batch, month);
    }

    public int close() throws IllegalStateException {
        checkTurn(closed < MONTHS);
        closed++;
        return closed - 1;
    }

    public long told(int what, int k) throws IndexOutOfBoundsException {
        switch (what) {
            case 0:
                return at(books.accountBalance, k);
            case 1:
                return at(books.orderBalance, k);
            case 2:
                return at(books.monthBalance, k);
            default:
                return entryFact(what, k);
        }
    }

    public int many(int what) throws IndexOutOfBoundsException {
        switch (what) {
            case 0:
                return books.count;
            case 1:
                return books.batches;
            case 2:
                return lines.count;
            case 3:
                return closed;
            case 4:
                return pieces.count;
            default:
                throw new IndexOutOfBoundsException("no such what");
        }
    }

    public void weight(int order, int v) throws IndexOutOfBoundsException, IllegalArgumentException {
        checkIndex(order, ORDERS);
        checkRange(v, 0, MOST_WEIGHT);
        weights[order] = v;
    }

    public long share(int order, int cents)
            throws IndexOutOfBoundsException, IllegalArgumentException, UnsupportedOperationException {
        checkIndex(order, ORDERS);
        checkRange(cents, 0, MOST_CENTS);
        long ahead = 0;
        long all = 0;
        for (int i = 0; i < ORDERS; i++) {
            if (i < order) {
                ahead += weights[i];
            }
            all += weights[i];
        }
        if (all == 0) {
            throw new UnsupportedOperationException("all weights are 0");
        }
        return partOf(cents, ahead, weights[order], all);
    }

    public int stock(int stock, int pieces, int cents)
            throws IndexOutOfBoundsException, IllegalStateException, IllegalArgumentException {
        checkIndex(stock, STOCKS);
        checkTurn(stocks[stock].layers < LAYERS);
        checkRange(pieces, 1, MOST_STOCK_PIECES);
        checkRange(cents, 0, MOST_PIECE_CENTS);
        return stocks[stock].addLayer(pieces, cents);
    }

    public long take(int stock, int pieces)
            throws IndexOutOfBoundsException, IllegalArgumentException, UnsupportedOperationException {
        checkIndex(stock, STOCKS);
        checkRange(pieces, 1, MOST_STOCK_PIECES);
        if (pieces > stocks[stock].allPieces()) {
            throw new UnsupportedOperationException("there are not so many pieces");
        }
        return stocks[stock].takeOut(pieces);
    }

    public long in(int stock, int what) throws IndexOutOfBoundsException {
        checkIndex(stock, STOCKS);
        switch (what) {
            case 0:
                return stocks[stock].allPieces();
            case 1:
                return stocks[stock].worth();
            case 2:
                return stocks[stock].layers;
            default:
                throw new IndexOutOfBoundsException("no such what");
        }
    }

    public int rate(int money, int day, int v)
            throws IndexOutOfBoundsException, IllegalStateException, IllegalArgumentException {
        checkIndex(money, MONEYS);
        checkTurn(moneys[money].count < RATES);
        checkRange(day, 0, LAST_DAY);
        checkRange(v, 1, MOST_RATE);
        if (day <= moneys[money].latestDay()) {
            throw new IllegalArgumentException("the day does not rise");
        }
        return moneys[money].add(day, v);
    }

    public long foreign(int money, int day, int units)
            throws IndexOutOfBoundsException, IllegalArgumentException, UnsupportedOperationException {
        checkIndex(money, MONEYS);
        checkRange(day, 0, LAST_DAY);
        checkRange(units, 0, MOST_UNITS);
        long rate = moneys[money].rateOn(day);
        if (rate == 0) {
            throw new UnsupportedOperationException("no rate yet on that day");
        }
        return (units * rate + RATE_UNITS / 2) / RATE_UNITS;
    }

    public int piece(int order, int weight)
            throws IndexOutOfBoundsException, IllegalStateException, IllegalArgumentException {
        checkIndex(order, ORDERS);
        checkTurn(pieces.count < PIECES);
        checkRange(weight, 1, MOST_WEIGHT);
        return pieces.add(order, weight);
    }

    public long opened(int piece) throws IndexOutOfBoundsException {
        checkIndex(piece, pieces.count);
        long balance = books.orderBalance[pieces.order[piece]];
        long ahead = pieces.weightOfOrder(piece, piece);
        long all = pieces.weightOfOrder(piece, pieces.count);
        return partOf(balance, ahead, pieces.weight[piece], all);
    }

    private long entryFact(int what, int k) {
        checkIndex(k, books.count);
        switch (what) {
            case 3:
                return books.cents[k];
            case 4:
                return books.account[k];
            case 5:
                return books.order[k];
            case 6:
                return books.month[k];
            case 7:
                return books.batch[k];
            default:
                throw new IndexOutOfBoundsException("no such what");
        }
    }

    private static long at(long[] row, int k) {
        checkIndex(k, row.length);
        return row[k];
    }

    /**
     * The part of a sum of the one whose own weight stands behind the weights ahead. Both quotients
     * round towards 0, so the part of a sum turned round is the part turned round. The largest
     * product, 200 entries' balance by 10 pieces' weights, is 2 * 10^18: it fits a long.
     */
    private static long partOf(long sum, long ahead, long own, long all) {
        if (all == 0) {
            return 0;
        }
        return sum * (ahead + own) / all - sum * ahead / all;
    }

    private void checkRoom(int more) {
        if (more > ENTRIES - books.count) {
            throw new UnsupportedOperationException("no room for the entries");
        }
    }

    private static void checkIndex(int k, int count) {
        if (k < 0 || k >= count) {
            throw new IndexOutOfBoundsException("no such index");
        }
    }

    private static void checkTurn(boolean inTurn) {
        if (!inTurn) {
            throw new IllegalStateException("the call is out of turn");
        }
    }

    private static void checkRange(int v, int least, int most) {
        if (v < least || v > most) {
            throw new IllegalArgumentException("out of range");
        }
    }

    /** The lines of the batch that is being told. */
    private static final class Lines {
        final int[] account = new int[LINES];
        final int[] order = new int[LINES];
        final int[] month = new int[LINES];
        final int[] cents = new int[LINES];
        int count = 0;

        /** The caller has seen that there is room. */
        int add(int ofAccount, int ofOrder, int ofMonth, int sum) {
            account[count] = ofAccount;
            order[count] = ofOrder;
            month[count] = ofMonth;
            cents[count] = sum;
            count++;
            return count;
        }

        boolean anyBefore(int firstMonth, int told) {
            for (int i = 0; i < told; i++) {
                if (month[i] < firstMonth) {
                    return true;
                }
            }
            return false;
        }

        long sum(int told) {
            long all = 0;
            for (int i = 0; i < told; i++) {
                all += cents[i];
            }
            return all;
        }
    }

    /** The entries that are kept, their batches and their balances. */
    private static final class Books {
        final int[] account = new int[ENTRIES];
        final int[] order = new int[ENTRIES];
        final int[] month = new int[ENTRIES];
        final int[] cents = new int[ENTRIES];
        final int[] batch = new int[ENTRIES];
        int count = 0;
        final long[] accountBalance = new long[ACCOUNTS];
        final long[] orderBalance = new long[ORDERS];
        final long[] monthBalance = new long[MONTHS];
        /** Of each batch, whether it was reversed or is a reversal. No batch is without entries. */
        final boolean[] fixed = new boolean[ENTRIES];
        int batches = 0;

        /** One more entry of the batch that endBatch ends; the caller has seen that there is room. */
        void enter(int ofAccount, int ofOrder, int ofMonth, int sum) {
            account[count] = ofAccount;
            order[count] = ofOrder;
            month[count] = ofMonth;
            cents[count] = sum;
            batch[count] = batches;
            count++;
            accountBalance[ofAccount] += sum;
            orderBalance[ofOrder] += sum;
            monthBalance[ofMonth] += sum;
        }

        int endBatch() {
            batches++;
            return batches - 1;
        }

        int sizeOf(int number) {
            int size = 0;
            for (int i = 0; i < count; i++) {
                if (batch[i] == number) {
                    size++;
                }
            }
            return size;
        }

        int turnRound(int number, int inMonth) {
            int kept = count;
            for (int i = 0; i < kept; i++) {
                if (batch[i] == number) {
                    enter(account[i], order[i], inMonth, -cents[i]);
                }
            }
            int reversal = endBatch();
            fixed[number] = true;
            fixed[reversal] = true;
            return reversal;
        }
    }

    /** A stock's layers, the one that came first at 0. */
    private static final class Stock {
        final int[] pieces = new int[LAYERS];
        final int[] cents = new int[LAYERS];
        int layers = 0;

        /** The caller has seen that there is room. */
        int addLayer(int number, int each) {
            pieces[layers] = number;
            cents[layers] = each;
            layers++;
            return layers;
        }

        int allPieces() {
            int all = 0;
            for (int i = 0; i < layers; i++) {
                all += pieces[i];
            }
            return all;
        }

        long worth() {
            long all = 0;
            for (int i = 0; i < layers; i++) {
                all += (long) pieces[i] * cents[i];
            }
            return all;
        }

        /** The caller has seen that there are so many. */
        long takeOut(int number) {
            int left = number;
            long cost = 0;
            int emptied = 0;
            for (int i = 0; i < layers; i++) {
                int some = Math.min(left, pieces[i]);
                pieces[i] -= some;
                left -= some;
                cost += (long) some * cents[i];
                if (pieces[i] == 0) {
                    emptied++;
                }
            }
            moveUp(emptied);
            return cost;
        }

        /** Emptied layers are always the first ones; without them there is room for others. */
        private void moveUp(int emptied) {
            for (int i = emptied; i < layers; i++) {
                pieces[i - emptied] = pieces[i];
                cents[i - emptied] = cents[i];
            }
            layers -= emptied;
        }
    }

    /** A foreign money's rates, their days rising. */
    private static final class Money {
        final int[] day = new int[RATES];
        final int[] cents = new int[RATES];
        int count = 0;

        int latestDay() {
            return count == 0 ? -1 : day[count - 1];
        }

        /** The caller has seen that there is room and that the day rises. */
        int add(int onDay, int v) {
            day[count] = onDay;
            cents[count] = v;
            count++;
            return count;
        }

        /** 0 where there is none yet: no rate is 0. */
        int rateOn(int ofDay) {
            int latest = 0;
            for (int i = 0; i < count; i++) {
                if (day[i] <= ofDay) {
                    latest = cents[i];
                }
            }
            return latest;
        }
    }

    /** The pieces of all orders, numbered as they came. */
    private static final class Pieces {
        final int[] order = new int[PIECES];
        final int[] weight = new int[PIECES];
        int count = 0;

        /** The caller has seen that there is room. */
        int add(int ofOrder, int v) {
            order[count] = ofOrder;
            weight[count] = v;
            count++;
            return count - 1;
        }

        /** The weights, together, of the pieces ahead of end that are of the same order as one. */
        long weightOfOrder(int one, int end) {
            long all = 0;
            for (int i = 0; i < end; i++) {
                if (order[i] == order[one]) {
                    all += weight[i];
                }
            }
            return all;
        }
    }
}
