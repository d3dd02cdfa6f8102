import java.math.BigInteger;

/** Section Z written down once more, sentence by sentence as it stands there: what the class is held against. */
final class NumberModel {
    static final long LOW = 0xFFFFFFFFL;
    private static final BigInteger MOST = BigInteger.ONE.shiftLeft(64).subtract(BigInteger.ONE);
    private static final BigInteger LEAST_LONG = BigInteger.valueOf(Long.MIN_VALUE);
    private static final BigInteger GREATEST_LONG = BigInteger.valueOf(Long.MAX_VALUE);

    long value;
    long mask = -1;
    long least;
    long greatest = -1;
    long signedLeast = Long.MIN_VALUE;
    long signedGreatest = Long.MAX_VALUE;
    boolean isEmpty;

    static NumberModel any() {
        return new NumberModel();
    }

    static NumberModel exact(long c) {
        NumberModel number = new NumberModel();
        number.value = c;
        number.mask = 0;
        number.least = c;
        number.greatest = c;
        number.signedLeast = c;
        number.signedGreatest = c;
        return number;
    }

    static NumberModel range(long least, long greatest) {
        NumberModel number = new NumberModel();
        number.least = least;
        number.greatest = greatest;
        return number;
    }

    NumberModel copy() {
        NumberModel other = new NumberModel();
        other.value = value;
        other.mask = mask;
        other.least = least;
        other.greatest = greatest;
        other.signedLeast = signedLeast;
        other.signedGreatest = signedGreatest;
        return other;
    }

    boolean isExact() {
        return mask == 0;
    }

    static boolean isAbove(long a, long b) {
        return Long.compareUnsigned(a, b) > 0;
    }

    private static long greater(long a, long b) {
        return isAbove(a, b) ? a : b;
    }

    private static long lesser(long a, long b) {
        return isAbove(a, b) ? b : a;
    }

    private static BigInteger unsigned(long number) {
        return BigInteger.valueOf(number).and(MOST);
    }

    private static BigInteger signed(long number) {
        return BigInteger.valueOf(number);
    }

    private static boolean isLong(BigInteger number) {
        return number.compareTo(LEAST_LONG) >= 0 && number.compareTo(GREATEST_LONG) <= 0;
    }

    /** Settles; what crossed makes it EMPTY, and no more is done. */
    NumberModel settled() {
        for (int time = 1; time <= 3; time++) {
            for (int step = 1; step <= 4; step++) {
                settle(step);
                isEmpty |= isAbove(least, greatest) || signedLeast > signedGreatest;
                if (isEmpty) {
                    return this;
                }
            }
        }
        return this;
    }

    private void settle(int step) {
        if (step == 1) {
            least = greater(least, value);
            greatest = lesser(greatest, value | mask);
        } else if (step == 2 && least < 0 == greatest < 0) {
            signedLeast = Math.max(signedLeast, least);
            signedGreatest = Math.min(signedGreatest, greatest);
        } else if (step == 3 && signedLeast < 0 == signedGreatest < 0) {
            least = greater(least, signedLeast);
            greatest = lesser(greatest, signedGreatest);
        } else if (step == 4) {
            settleBits();
        }
    }

    private void settleBits() {
        long differing = least ^ greatest;
        long k = differing == 0 ? 0 : -1L >>> Long.numberOfLeadingZeros(differing);
        for (int i = 0; i < 64; i++) {
            long bit = 1L << i;
            if ((k & bit) == 0) {
                isEmpty |= (mask & bit) == 0 && (value & bit) != (least & bit);
                value = value & ~bit | least & bit;
                mask &= ~bit;
            }
        }
    }

    boolean covers(NumberModel other) {
        boolean areBits = true;
        for (int i = 0; i < 64; i++) {
            long bit = 1L << i;
            boolean isKnown = (mask & bit) == 0;
            areBits &= !isKnown || (other.mask & bit) == 0 && (value & bit) == (other.value & bit);
        }
        return areBits && !isAbove(least, other.least) && !isAbove(other.greatest, greatest) && signedLeast <= other.signedLeast
            && signedGreatest >= other.signedGreatest;
    }

    static NumberModel operate(int operation, NumberModel x, NumberModel y, boolean isNarrow) {
        if (!isNarrow) {
            return orAny(wide(operation, x, y, 6));
        }
        NumberModel a = x.narrowed();
        NumberModel b = y.narrowed();
        if (operation == 10) {
            boolean isBelow = isAbove(1L << 31, a.greatest);
            return orAny(isBelow ? wide(9, a, b, 5) : any()).narrowed();
        }
        return orAny(wide(operation, a, b, 5)).narrowed();
    }

    private static NumberModel orAny(NumberModel number) {
        return number.settled().isEmpty ? any() : number;
    }

    NumberModel narrowed() {
        NumberModel number = copy();
        if (!isAbove(greatest, LOW)) {
            return number;
        }
        boolean isSame = least >>> 32 == greatest >>> 32;
        number.value = value & LOW;
        number.mask = mask & LOW;
        number.least = isSame ? least & LOW : 0;
        number.greatest = isSame ? greatest & LOW : LOW;
        number.signedLeast = 0;
        number.signedGreatest = LOW;
        if (!number.settled().isEmpty) {
            return number;
        }
        NumberModel open = range(0, LOW);
        open.mask = LOW;
        open.signedLeast = 0;
        open.signedGreatest = LOW;
        return open;
    }

    private static NumberModel wide(int operation, NumberModel x, NumberModel y, int shiftBits) {
        NumberModel r = any();
        switch (operation) {
            case 0:
                return sum(x, y);
            case 1:
                return difference(x, y);
            case 2:
                return product(x, y);
            case 3:
                return quotient(x, y);
            case 4:
                return rest(x, y);
            case 5:
                r.value = x.value & y.value;
                r.mask = (x.value | x.mask) & (y.value | y.mask) & ~r.value;
                r.greatest = lesser(x.greatest, y.greatest);
                return r;
            case 6:
                r.value = x.value | y.value;
                r.mask = (x.mask | y.mask) & ~r.value;
                r.least = greater(x.least, y.least);
                return r;
            case 7:
                r.mask = x.mask | y.mask;
                r.value = (x.value ^ y.value) & ~r.mask;
                return r;
            case 11:
                return difference(exact(0), x);
            case 12:
                return y.copy();
            case 13:
                return swapped(x, y);
            case 14:
                return cut(x, y);
            default:
                return shifted(operation, x, y, shiftBits);
        }
    }

    private static NumberModel sum(NumberModel x, NumberModel y) {
        NumberModel r = any();
        long s = x.mask + y.mask;
        long t = x.value + y.value;
        r.mask = (s + t ^ t) | x.mask | y.mask;
        r.value = t & ~r.mask;
        if (unsigned(x.greatest).add(unsigned(y.greatest)).compareTo(MOST) <= 0) {
            r.least = x.least + y.least;
            r.greatest = x.greatest + y.greatest;
        }
        if (isLong(signed(x.signedLeast).add(signed(y.signedLeast))) && isLong(signed(x.signedGreatest).add(signed(y.signedGreatest)))) {
            r.signedLeast = x.signedLeast + y.signedLeast;
            r.signedGreatest = x.signedGreatest + y.signedGreatest;
        }
        return r;
    }

    private static NumberModel difference(NumberModel x, NumberModel y) {
        NumberModel r = any();
        long t = x.value - y.value;
        r.mask = (t + x.mask ^ t - y.mask) | x.mask | y.mask;
        r.value = t & ~r.mask;
        if (!isAbove(y.greatest, x.least)) {
            r.least = x.least - y.greatest;
            r.greatest = x.greatest - y.least;
        }
        if (isLong(signed(x.signedLeast).subtract(signed(y.signedGreatest))) && isLong(signed(x.signedGreatest).subtract(signed(y.signedLeast)))) {
            r.signedLeast = x.signedLeast - y.signedGreatest;
            r.signedGreatest = x.signedGreatest - y.signedLeast;
        }
        return r;
    }

    private static int lowestZeros(NumberModel x) {
        return Long.numberOfTrailingZeros(x.value | x.mask);
    }

    private static NumberModel product(NumberModel x, NumberModel y) {
        if (x.isExact() && y.isExact()) {
            return exact(x.value * y.value);
        }
        NumberModel r = any();
        int zeros = Math.min(64, lowestZeros(x) + lowestZeros(y));
        r.mask = unsigned(-1).shiftRight(zeros).shiftLeft(zeros).longValue();
        if (!isAbove(x.greatest, LOW) && !isAbove(y.greatest, LOW)) {
            r.least = x.least * y.least;
            r.greatest = x.greatest * y.greatest;
        }
        return r;
    }

    private static NumberModel quotient(NumberModel x, NumberModel y) {
        if (!y.isExact()) {
            return range(0, x.greatest);
        }
        return y.value == 0 ? exact(0) : range(Long.divideUnsigned(x.least, y.value), Long.divideUnsigned(x.greatest, y.value));
    }

    private static NumberModel rest(NumberModel x, NumberModel y) {
        if (!y.isExact()) {
            return range(0, x.greatest);
        }
        return y.value == 0 || isAbove(y.value, x.greatest) ? x.copy() : range(0, y.value - 1);
    }

    private static NumberModel shifted(int operation, NumberModel x, NumberModel y, int shiftBits) {
        NumberModel r = any();
        if (!y.isExact()) {
            return r;
        }
        int s = (int) (y.value & (1 << shiftBits) - 1);
        if (operation == 8) {
            r.value = x.value << s;
            r.mask = x.mask << s;
            if (unsigned(x.greatest).shiftLeft(s).compareTo(MOST) <= 0) {
                r.least = x.least << s;
                r.greatest = x.greatest << s;
            }
        } else if (operation == 9) {
            r.value = x.value >>> s;
            r.mask = x.mask >>> s;
            r.least = x.least >>> s;
            r.greatest = x.greatest >>> s;
        } else {
            r.value = x.value >> s;
            r.mask = x.mask >> s;
            r.signedLeast = x.signedLeast >> s;
            r.signedGreatest = x.signedGreatest >> s;
        }
        return r;
    }

    private static int bytesOf(NumberModel y) {
        return y.isExact() && (y.value == 2 || y.value == 4) ? (int) y.value : 8;
    }

    private static NumberModel swapped(NumberModel x, NumberModel y) {
        int bytes = bytesOf(y);
        if (x.isExact()) {
            return exact(Long.reverseBytes(x.value) >>> 64 - 8 * bytes);
        }
        return bytes == 8 ? any() : range(0, -1L >>> 64 - 8 * bytes);
    }

    private static NumberModel cut(NumberModel x, NumberModel y) {
        long most = -1L >>> 64 - 8 * bytesOf(y);
        return isAbove(x.greatest, most) ? wide(5, x, exact(most), 6) : x.copy();
    }

    /** What a relation tells of x and y as it holds, in both of them; false if it can't hold. */
    static boolean tell(int relation, NumberModel x, NumberModel y, boolean isNarrow) {
        boolean isSigned = relation == 5 || relation == 6 || relation == 9 || relation == 10;
        long most = isSigned ? (1L << 31) - 1 : LOW;
        if (!isNarrow || !isAbove(x.greatest, most) && !isAbove(y.greatest, most)) {
            return tellWide(relation, x, y);
        }
        return isSigned || tellWide(relation, x.narrowed(), y.narrowed());
    }

    private static boolean tellWide(int relation, NumberModel x, NumberModel y) {
        NumberModel wasX = x.copy();
        switch (relation) {
            case 0:
                same(x, y);
                break;
            case 1:
            case 2:
                order(x, y, relation == 1);
                break;
            case 7:
            case 8:
                order(y, x, relation == 7);
                break;
            case 5:
            case 6:
                signedOrder(x, y, relation == 5);
                break;
            case 9:
            case 10:
                signedOrder(y, x, relation == 9);
                break;
            case 4:
                if (y.isExact()) {
                    exclude(x, y.value);
                }
                if (wasX.isExact()) {
                    exclude(y, wasX.value);
                }
                break;
            case 3:
                meet(x, y, wasX);
                break;
            default:
                notMeet(x, y, wasX);
                break;
        }
        return !x.isEmpty && !y.isEmpty && !x.settled().isEmpty && !y.settled().isEmpty;
    }

    private static void order(NumberModel x, NumberModel y, boolean isStrict) {
        x.isEmpty = isStrict && (y.least == -1 || x.greatest == 0);
        x.least = greater(x.least, y.least + (isStrict ? 1 : 0));
        y.greatest = lesser(y.greatest, x.greatest - (isStrict ? 1 : 0));
    }

    private static void signedOrder(NumberModel x, NumberModel y, boolean isStrict) {
        x.isEmpty = isStrict && (y.signedLeast == Long.MAX_VALUE || x.signedGreatest == Long.MIN_VALUE);
        x.signedLeast = Math.max(x.signedLeast, y.signedLeast + (isStrict ? 1 : 0));
        y.signedGreatest = Math.min(y.signedGreatest, x.signedGreatest - (isStrict ? 1 : 0));
    }

    private static void same(NumberModel x, NumberModel y) {
        long bothKnow = ~x.mask & ~y.mask;
        x.isEmpty = (x.value & bothKnow) != (y.value & bothKnow);
        x.value |= y.value;
        x.mask &= y.mask;
        x.least = greater(x.least, y.least);
        x.greatest = lesser(x.greatest, y.greatest);
        x.signedLeast = Math.max(x.signedLeast, y.signedLeast);
        x.signedGreatest = Math.min(x.signedGreatest, y.signedGreatest);
        y.value = x.value;
        y.mask = x.mask;
        y.least = x.least;
        y.greatest = x.greatest;
        y.signedLeast = x.signedLeast;
        y.signedGreatest = x.signedGreatest;
    }

    private static void exclude(NumberModel x, long c) {
        x.isEmpty |= x.isExact() && x.value == c;
        x.least += x.least == c ? 1 : 0;
        x.greatest -= x.greatest == c ? 1 : 0;
        x.signedLeast += x.signedLeast == c ? 1 : 0;
        x.signedGreatest -= x.signedGreatest == c ? 1 : 0;
    }

    private static boolean isOneBit(NumberModel x) {
        return x.isExact() && Long.bitCount(x.value) == 1;
    }

    private static void meet(NumberModel x, NumberModel y, NumberModel wasX) {
        x.isEmpty = ((x.value | x.mask) & (y.value | y.mask)) == 0;
        if (isOneBit(y)) {
            x.value |= y.value;
            x.mask &= ~y.value;
        }
        if (isOneBit(wasX)) {
            y.value |= wasX.value;
            y.mask &= ~wasX.value;
        }
    }

    private static void notMeet(NumberModel x, NumberModel y, NumberModel wasX) {
        x.isEmpty = (x.value & y.value) != 0;
        if (y.isExact()) {
            x.mask &= ~y.value;
        }
        if (wasX.isExact()) {
            y.mask &= ~wasX.value;
        }
    }
}
