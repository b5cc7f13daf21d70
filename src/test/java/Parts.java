import java.math.BigInteger;

/** Sharing by the document's words, in whole numbers without a limit. */
final class Parts {
    private Parts() {
    }

    static long[] of(long sum, int... weights) {
        BigInteger all = BigInteger.ZERO;
        for (int w : weights) {
            all = all.add(BigInteger.valueOf(w));
        }
        long[] parts = new long[weights.length];
        BigInteger upTo = BigInteger.ZERO;
        long ahead = 0;
        for (int i = 0; i < weights.length; i++) {
            upTo = upTo.add(BigInteger.valueOf(weights[i]));
            long due = upTo.multiply(BigInteger.valueOf(sum).abs()).divide(all).longValueExact();
            parts[i] = sum < 0 ? ahead - due : due - ahead;
            ahead = due;
        }
        return parts;
    }
}
