import java.math.BigInteger;
import java.util.ArrayList;
import java.util.HashSet;
import java.util.List;
import java.util.Set;
import java.util.TreeMap;

/**
 * The document said again in the plainest way: lists without rows, balances summed anew at each
 * question, whole numbers without a limit. It is slow, and shares nothing with the class it judges.
 */
final class Model {
    private static final long BILLION = 1_000_000_000L;
    private static final long MILLION = 1_000_000L;

    private record Entry(int account, int order, int month, int cents, int batch) {
        int fact(int what) {
            return new int[] {cents, account, order, month, batch}[what - 3];
        }
    }

    private record Piece(int order, int weight) {
    }

    private final List<Entry> entries = new ArrayList<>();
    private final List<Entry> told = new ArrayList<>();
    private final Set<Integer> reversedOrReversal = new HashSet<>();
    private final int[] weights = new int[8];
    private final List<List<int[]>> stocks = List.of(
        new ArrayList<>(), new ArrayList<>(), new ArrayList<>(), new ArrayList<>());
    private final List<TreeMap<Integer, Integer>> rates = List.of(new TreeMap<>(), new TreeMap<>(), new TreeMap<>());
    private final List<Piece> pieces = new ArrayList<>();
    private int batches = 0;
    private int closed = 0;

    /** The call's answer; 0 where it has none. */
    long answer(String call, int[] a) {
        switch (call) {
            case "line": return line(a[0], a[1], a[2], a[3]);
            case "put": return put();
            case "drop": told.clear(); return 0;
            case "correct": return correct(a[0], a[1], a[2], a[3], a[4]);
            case "reverse": return reverse(a[0], a[1]);
            case "close": turn(closed == 12); return closed++;
            case "told": return told(a[0], a[1]);
            case "many": return many(a[0]);
            case "weight": index(a[0], 8); range(a[1], 0, MILLION); weights[a[0]] = a[1]; return 0;
            case "share": return share(a[0], a[1]);
            case "stock": return stock(a[0], a[1], a[2]);
            case "take": return take(a[0], a[1]);
            case "in": return in(a[0], a[1]);
            case "rate": return rate(a[0], a[1], a[2]);
            case "foreign": return foreign(a[0], a[1], a[2]);
            case "piece": return piece(a[0], a[1]);
            case "opened": return opened(a[0]);
            default: throw new AssertionError(call);
        }
    }

    private int line(int account, int order, int month, int cents) {
        index(account, 8);
        index(order, 8);
        index(month, 12);
        turn(told.size() == 16);
        range(cents, -BILLION, BILLION);
        range(Math.abs(cents), 1, BILLION);
        told.add(new Entry(account, order, month, cents, 0));
        return told.size();
    }

    private int put() {
        List<Entry> batch = new ArrayList<>(told);
        told.clear();
        turn(batch.stream().anyMatch(e -> e.month < closed));
        meaning(batch.isEmpty());
        meaning(batch.stream().mapToLong(e -> e.cents).sum() != 0);
        return keep(batch);
    }

    private int keep(List<Entry> batch) {
        meaning(entries.size() + batch.size() > 200);
        for (Entry e : batch) {
            entries.add(new Entry(e.account, e.order, e.month, e.cents, batches));
        }
        return batches++;
    }

    private int correct(int from, int to, int order, int month, int cents) {
        index(from, 8);
        index(to, 8);
        index(from == to ? -1 : 0, 1);
        index(order, 8);
        index(month, 12);
        turn(month < closed && month != closed - 1);
        range(cents, 1, BILLION);
        return keep(List.of(new Entry(from, order, month, -cents, 0), new Entry(to, order, month, cents, 0)));
    }

    private int reverse(int batch, int month) {
        index(batch, batches);
        index(month, 12);
        turn(month < closed);
        meaning(reversedOrReversal.contains(batch));
        int reversal = keep(entries.stream().filter(e -> e.batch == batch)
            .map(e -> new Entry(e.account, e.order, month, -e.cents, 0)).toList());
        reversedOrReversal.add(batch);
        reversedOrReversal.add(reversal);
        return reversal;
    }

    private long told(int what, int k) {
        index(what, 8);
        if (what >= 3) {
            index(k, entries.size());
            return entries.get(k).fact(what);
        }
        index(k, what == 2 ? 12 : 8);
        // Facts 4, 5 and 6 are the account, the order and the month.
        return entries.stream().filter(e -> e.fact(what + 4) == k).mapToLong(e -> e.cents).sum();
    }

    private int many(int what) {
        index(what, 5);
        return new int[] {entries.size(), batches, told.size(), closed, pieces.size()}[what];
    }

    private long share(int order, int cents) {
        index(order, 8);
        range(cents, 0, BILLION);
        List<Integer> all = new ArrayList<>();
        for (int w : weights) {
            all.add(w);
        }
        meaning(all.stream().allMatch(w -> w == 0));
        return shares(cents, all).get(order);
    }

    /** All shares, each what is due up to it less what the ones ahead of it have. */
    private static List<Long> shares(long sum, List<Integer> all) {
        BigInteger whole = BigInteger.valueOf(all.stream().mapToLong(w -> w).sum());
        List<Long> shares = new ArrayList<>();
        long upTo = 0;
        long given = 0;
        for (int w : all) {
            upTo += w;
            long due = BigInteger.valueOf(sum).multiply(BigInteger.valueOf(upTo)).divide(whole).longValueExact();
            shares.add(due - given);
            given = due;
        }
        return shares;
    }

    private int stock(int stock, int number, int cents) {
        index(stock, 4);
        turn(stocks.get(stock).size() == 12);
        range(number, 1, MILLION);
        range(cents, 0, MILLION);
        stocks.get(stock).add(new int[] {number, cents});
        return stocks.get(stock).size();
    }

    private long take(int stock, int number) {
        index(stock, 4);
        range(number, 1, MILLION);
        meaning(in(stock, 0) < number);
        List<int[]> layers = stocks.get(stock);
        long before = in(stock, 1);
        int left = number;
        while (left > 0 && layers.get(0)[0] <= left) {
            left -= layers.remove(0)[0];
        }
        if (left > 0) {
            layers.get(0)[0] -= left;
        }
        return before - in(stock, 1);
    }

    private long in(int stock, int what) {
        index(stock, 4);
        index(what, 3);
        List<int[]> layers = stocks.get(stock);
        if (what == 2) {
            return layers.size();
        }
        return layers.stream().mapToLong(l -> what == 0 ? l[0] : (long) l[0] * l[1]).sum();
    }

    private int rate(int money, int day, int v) {
        index(money, 3);
        TreeMap<Integer, Integer> row = rates.get(money);
        turn(row.size() == 10);
        range(day, 0, 365);
        range(v, 1, 100 * MILLION);
        range(row.tailMap(day, true).size(), 0, 0);
        row.put(day, v);
        return row.size();
    }

    private long foreign(int money, int day, int units) {
        index(money, 3);
        range(day, 0, 365);
        range(units, 0, BILLION);
        var latest = rates.get(money).floorEntry(day);
        meaning(latest == null);
        BigInteger[] parts = BigInteger.valueOf(units).multiply(BigInteger.valueOf(latest.getValue()))
            .divideAndRemainder(BigInteger.valueOf(10_000));
        return parts[0].longValueExact() + (parts[1].intValue() >= 5_000 ? 1 : 0);
    }

    private int piece(int order, int weight) {
        index(order, 8);
        turn(pieces.size() == 10);
        range(weight, 1, MILLION);
        pieces.add(new Piece(order, weight));
        return pieces.size() - 1;
    }

    private long opened(int piece) {
        index(piece, pieces.size());
        int order = pieces.get(piece).order;
        List<Integer> ofOrder = pieces.stream().filter(p -> p.order == order).map(Piece::weight).toList();
        int place = (int) pieces.subList(0, piece).stream().filter(p -> p.order == order).count();
        long balance = told(1, order);
        long share = shares(Math.abs(balance), ofOrder).get(place);
        return balance < 0 ? -share : share;
    }

    private static void index(int k, int count) {
        if (k < 0 || k >= count) {
            throw new IndexOutOfBoundsException();
        }
    }

    private static void turn(boolean wrong) {
        if (wrong) {
            throw new IllegalStateException();
        }
    }

    private static void range(long v, long least, long most) {
        if (v < least || v > most) {
            throw new IllegalArgumentException();
        }
    }

    private static void meaning(boolean wrong) {
        if (wrong) {
            throw new UnsupportedOperationException();
        }
    }
}
