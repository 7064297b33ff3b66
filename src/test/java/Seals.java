import java.math.BigInteger;

/** Seals and checksums once more, with numbers that never wrap around until the end. */
final class Seals {
    private static final BigInteger TIMES = BigInteger.valueOf(31);

    private Seals() {
    }

    static int of(String text) {
        BigInteger sum = BigInteger.valueOf(11);
        for (int i = 0; i < text.length(); i++) {
            sum = sum.multiply(TIMES).add(BigInteger.valueOf(text.charAt(i)));
        }
        return sum.intValue();
    }

    static long folded(int... numbers) {
        BigInteger sum = BigInteger.valueOf(2269);
        for (int number : numbers) {
            sum = sum.multiply(TIMES).add(BigInteger.valueOf(number));
        }
        return sum.longValue();
    }
}
