import java.math.BigInteger;

/** What is due of DIVIDE and REST of longs without sign, reckoned by another way than the class's own. */
final class Unsigned {
    private static final BigInteger WRAP = BigInteger.ONE.shiftLeft(64);

    /** Numbers with and without the highest bit, and those next to the edges between. */
    static final long[] NUMBERS = {0, 1, 2, 3, 7, 10, 255, 0x7FFFFFFFL, 0x80000000L, 0xFFFFFFFFL, 0x100000000L, 0x100000001L,
        0x123456789ABCDEFL, 0x3FFFFFFFFFFFFFFFL, 0x4000000000000000L, 0x5555555555555555L, Long.MAX_VALUE - 1, Long.MAX_VALUE,
        Long.MIN_VALUE, Long.MIN_VALUE + 1, 0x8000000080000000L, 0xAAAAAAAAAAAAAAAAL, 0xC000000000000000L, 0xFEDCBA9876543210L,
        0xFFFFFFFF00000000L, -0x80000000L, -256, -10, -3, -2, -1};

    private Unsigned() {
    }

    private static BigInteger of(long number) {
        BigInteger signed = BigInteger.valueOf(number);
        return number < 0 ? signed.add(WRAP) : signed;
    }

    static long quotient(long x, long y) {
        return y == 0 ? 0 : of(x).divide(of(y)).longValue();
    }

    static long rest(long x, long y) {
        return y == 0 ? x : of(x).mod(of(y)).longValue();
    }

    static boolean isBelow(long x, long y) {
        return of(x).compareTo(of(y)) < 0;
    }

    /** Number i of a row that is always the same and looks like chance; every second one has few bits. */
    static long scattered(int i) {
        long number = (i + 1) * 0x9E3779B97F4A7C15L;
        number = (number ^ number >>> 30) * 0xBF58476D1CE4E5B9L;
        number = (number ^ number >>> 27) * 0x94D049BB133111EBL;
        number ^= number >>> 31;
        return i % 2 == 0 ? number : number >>> (number & 63);
    }
}
