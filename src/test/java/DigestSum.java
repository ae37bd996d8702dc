import java.math.BigInteger;

/** The digest of numbers, without longs that wrap. */
final class DigestSum {
    private DigestSum() {
    }

    static long of(long... numbers) {
        BigInteger h = BigInteger.valueOf(359);
        for (long number : numbers) {
            h = h.multiply(BigInteger.valueOf(31)).add(BigInteger.valueOf(number));
        }
        return h.longValue();
    }
}
