import java.util.Arrays;
import java.util.HashMap;
import java.util.Map;
import java.util.Random;
import java.util.function.LongSupplier;

/** All promises: runs of 512 calls, drawn from written seeds, answered as the model answers. */
public final class ModelTest {
    private static final int RUNS = 400;
    private static final int CALLS = 512;
    private static final String[] CALL_NAMES = {
        "line", "put", "drop", "correct", "reverse", "close", "told", "many", "weight", "share",
        "stock", "take", "in", "rate", "foreign", "piece", "opened",
    };
    private static final int[] BAD = {-1, Integer.MIN_VALUE, Integer.MAX_VALUE, 1_000_000_001, -1_000_000_001};

    private final Random random;
    private final ShopLedger ledger = new ShopLedger();
    private final Model model = new Model();
    /** Drawn anew for each run, so that each part of the class is full in some runs, empty in others. */
    private final int[] often = new int[CALL_NAMES.length];
    /** What the lines told lack to sum to nothing. */
    private long lacking = 0;
    private int linesTold = 0;
    private int day = 0;

    private ModelTest(long seed) {
        random = new Random(seed);
        for (int i = 0; i < often.length; i++) {
            often[i] = 1 + random.nextInt(10);
        }
        often[index("drop")] = 1;
        often[index("close")] = random.nextInt(2);
        often[index("line")] *= 1 + random.nextInt(8);
    }

    public static void main(String[] args) {
        Map<String, Integer> seen = new HashMap<>();
        for (int seed = 0; seed < RUNS; seed++) {
            ModelTest run = new ModelTest(seed);
            for (int i = 0; i < CALLS; i++) {
                if (!run.step(seed, i, seen)) {
                    break;
                }
            }
        }
        allWereSeen(seen);
        Check.end("ModelTest");
    }

    /** A test that never comes to a call's answer or to one of its exceptions would prove nothing of it. */
    private static void allWereSeen(Map<String, Integer> seen) {
        String index = "IndexOutOfBoundsException";
        String turn = "IllegalStateException";
        String range = "IllegalArgumentException";
        String meaning = "UnsupportedOperationException";
        String[][] ends = {
            {"line", index, turn, range}, {"put", turn, meaning}, {"drop"},
            {"correct", index, turn, range, meaning}, {"reverse", index, turn, meaning}, {"close", turn},
            {"told", index}, {"many", index}, {"weight", index, range}, {"share", index, range, meaning},
            {"stock", index, turn, range}, {"take", index, range, meaning}, {"in", index},
            {"rate", index, turn, range}, {"foreign", index, range, meaning}, {"piece", index, turn, range},
            {"opened", index},
        };
        for (String[] row : ends) {
            for (int i = 0; i < row.length; i++) {
                String end = row[0] + " " + (i == 0 ? "answer" : row[i]);
                if (seen.getOrDefault(end, 0) == 0) {
                    Check.fail("no run came to: " + end);
                }
            }
        }
    }

    private boolean step(int seed, int i, Map<String, Integer> seen) {
        String call = drawCall();
        int[] a = drawArguments(call);
        String want = ended(() -> model.answer(call, a));
        String got = ended(() -> ask(call, a));
        seen.merge(call + " " + (want.endsWith("Exception") ? want : "answer"), 1, Integer::sum);
        follow(call, a, want);
        if (!want.equals(got)) {
            Check.fail("run " + seed + ", call " + i + ": " + call + Arrays.toString(a) + " ended with " + got
                + ", due is " + want);
            return false;
        }
        return true;
    }

    private void follow(String call, int[] a, String want) {
        boolean refused = want.endsWith("Exception");
        if (call.equals("put") || call.equals("drop")) {
            lacking = 0;
            linesTold = 0;
        } else if (call.equals("line") && !refused) {
            lacking -= a[3];
            linesTold++;
        }
    }

    private static String ended(LongSupplier call) {
        try {
            return Long.toString(call.getAsLong());
        } catch (RuntimeException e) {
            return e.getClass().getSimpleName();
        }
    }

    private String drawCall() {
        if (linesTold > 1 && lacking == 0 && random.nextInt(3) == 0) {
            return "put";
        }
        int left = random.nextInt(Arrays.stream(often).sum());
        for (int i = 0; i < often.length; i++) {
            left -= often[i];
            if (left < 0) {
                return CALL_NAMES[i];
            }
        }
        throw new AssertionError();
    }

    private static int index(String call) {
        return Arrays.asList(CALL_NAMES).indexOf(call);
    }

    private int[] drawArguments(String call) {
        int[] a = drawGoodArguments(call);
        if (a.length > 0 && random.nextInt(12) == 0) {
            a[random.nextInt(a.length)] = BAD[random.nextInt(BAD.length)];
        }
        return a;
    }

    /** Mostly good ones: the edges are drawn often, and here and there one beyond. */
    private int[] drawGoodArguments(String call) {
        switch (call) {
            case "line": return new int[] {below(8), below(8), below(12), drawLineSum()};
            case "correct": return new int[] {below(8), below(8), below(8), below(12), between(1, 1_000_000_000)};
            case "reverse": return new int[] {random.nextInt(40), below(12)};
            case "told": return drawTold();
            case "many": return new int[] {below(5)};
            case "weight": return new int[] {below(8), between(0, 1_000_000)};
            case "share": return new int[] {below(8), between(0, 1_000_000_000)};
            case "stock": return new int[] {below(4), between(1, 1_000_000), between(0, 1_000_000)};
            case "take": return new int[] {below(4), between(1, 1_000_000)};
            case "in": return new int[] {below(4), below(3)};
            case "rate": return new int[] {below(3), drawDay(), between(1, 100_000_000)};
            case "foreign": return new int[] {below(3), between(0, 365), between(0, 1_000_000_000)};
            case "piece": return new int[] {below(8), between(1, 1_000_000)};
            case "opened": return new int[] {below(10)};
            default: return new int[0];
        }
    }

    private int drawLineSum() {
        if (lacking != 0 && Math.abs(lacking) <= 1_000_000_000 && random.nextBoolean()) {
            return (int) lacking;
        }
        return random.nextBoolean() ? between(1, 1_000_000_000) : -between(1, 1_000_000_000);
    }

    private int[] drawTold() {
        int what = below(8);
        return new int[] {what, what < 3 ? below(what == 2 ? 12 : 8) : random.nextInt(201)};
    }

    private int drawDay() {
        day += random.nextInt(20);
        return random.nextInt(8) == 0 ? between(0, 365) : Math.min(day, 366);
    }

    private int below(int count) {
        return random.nextInt(40) == 0 ? count : random.nextInt(count);
    }

    private int between(int least, int most) {
        switch (random.nextInt(12)) {
            case 0: return least;
            case 1: return most;
            case 2: return random.nextInt(4) == 0 ? least - 1 : least + 1;
            case 3: return random.nextInt(4) == 0 ? most + 1 : most - 1;
            case 4:
            case 5:
            case 6:
            case 7: return least + random.nextInt(10);
            default: return least + random.nextInt(most - least);
        }
    }

    private long ask(String call, int[] a) {
        switch (call) {
            case "line": return ledger.line(a[0], a[1], a[2], a[3]);
            case "put": return ledger.put();
            case "drop": ledger.drop(); return 0;
            case "correct": return ledger.correct(a[0], a[1], a[2], a[3], a[4]);
            case "reverse": return ledger.reverse(a[0], a[1]);
            case "close": return ledger.close();
            case "told": return ledger.told(a[0], a[1]);
            case "many": return ledger.many(a[0]);
            case "weight": ledger.weight(a[0], a[1]); return 0;
            case "share": return ledger.share(a[0], a[1]);
            case "stock": return ledger.stock(a[0], a[1], a[2]);
            case "take": return ledger.take(a[0], a[1]);
            case "in": return ledger.in(a[0], a[1]);
            case "rate": return ledger.rate(a[0], a[1], a[2]);
            case "foreign": return ledger.foreign(a[0], a[1], a[2]);
            case "piece": return ledger.piece(a[0], a[1]);
            case "opened": return ledger.opened(a[0]);
            default: throw new AssertionError(call);
        }
    }
}
