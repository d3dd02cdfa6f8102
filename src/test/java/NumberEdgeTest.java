/** Promises 4 and 6, section Z: each sentence with a bound, a wrap-around or a number of bits, from both of its sides. */
public final class NumberEdgeTest {
    private static final Checker CHECK = new Checker("NumberEdgeTest");
    private static final Probe PROBE = new Probe(CHECK);
    private static final long LOW = 0xFFFFFFFFL;
    private static final long MAX = Long.MAX_VALUE;
    private static final long MIN = Long.MIN_VALUE;
    private static final int ADD = Assembly.ADD;
    private static final int SUBTRACT = Assembly.SUBTRACT;
    private static final int MULTIPLY = Assembly.MULTIPLY;
    private static final int NOT_BELOW = Assembly.NOT_BELOW;
    private static final int NOT_ABOVE = Assembly.NOT_ABOVE;
    private static final int NOT_LESS = Assembly.NOT_LESS;
    private static final int NOT_GREATER = Assembly.NOT_GREATER;

    private NumberEdgeTest() {
    }

    public static void main(String[] args) {
        exactWraps();
        readNumbers();
        settledSigned();
        settledUnsigned();
        settledBits();
        settledEmpty();
        settledThreeTimes();
        emptyResults();
        sums();
        signedSums();
        differences();
        signedDifferences();
        overflowsLeaveBits();
        products();
        quotients();
        rests();
        shifts();
        shiftsByRegisters();
        turns();
        narrowed();
        narrowRightSigned();
        orders();
        ordersThatTellNothing();
        ordersThatCantHold();
        same();
        notSame();
        meets();
        meetsLeaveBits();
        narrowRelations();
        narrowSignedRelations();
        CHECK.end();
    }

    private static Assembly a() {
        return new Assembly();
    }

    private static Assembly both(Assembly first, Assembly second) {
        for (int i = 0; i < second.size(); i++) {
            first.raw(second.word(i));
        }
        return first;
    }

    /** A register is ANY of which two relations with EXACT numbers hold. */
    private static Assembly told(int register, int k, long first, int secondK, long second) {
        return a().load(8, register, 1, 16 + 8 * (register & 3)).wide(9, first).ifFrom(k, register, 9, 2).leave(0)
            .wide(9, second).ifFrom(secondK, register, 9, 2).leave(0);
    }

    private static Assembly unsigned(int register, long least, long greatest) {
        return told(register, NOT_BELOW, least, NOT_ABOVE, greatest);
    }

    private static Assembly signed(int register, long least, long greatest) {
        return told(register, NOT_LESS, least, NOT_GREATER, greatest);
    }

    /** Register 2 is of unsigned bounds, and so is 3. */
    private static Assembly two(long least, long greatest, long otherLeast, long otherGreatest) {
        return both(unsigned(2, least, greatest), unsigned(3, otherLeast, otherGreatest));
    }

    private static Assembly twoSigned(long least, long greatest, long otherLeast, long otherGreatest) {
        return both(signed(2, least, greatest), signed(3, otherLeast, otherGreatest));
    }

    private static void exactWraps() {
        PROBE.exact("MOST - 1 + 1", a().move(2, -2).field(ADD, 2, 1), true, -1);
        PROBE.exact("MOST + 1", a().move(2, -1).field(ADD, 2, 1), true, 0);
        PROBE.exact("0 - 1", a().move(2, 0).field(SUBTRACT, 2, 1), true, -1);
        PROBE.exact("1 - 1", a().move(2, 1).field(SUBTRACT, 2, 1), true, 0);
        PROBE.exact("the greatest long + 1", a().wide(2, MAX).field(ADD, 2, 1), true, MIN);
        PROBE.exact("the least long - 1", a().wide(2, MIN).field(SUBTRACT, 2, 1), true, MAX);
        PROBE.exact("2^32 * 2^31", a().wide(2, 1L << 32).wide(3, 1L << 31).from(MULTIPLY, 2, 3), true, MIN);
        PROBE.exact("2^32 * 2^32", a().wide(2, 1L << 32).wide(3, 1L << 32).from(MULTIPLY, 2, 3), true, 0);
        PROBE.exact("narrow LOW + 1", a().wide(2, LOW).narrowField(ADD, 2, 1), true, 0);
        PROBE.exact("narrow LOW - 1 + 1", a().wide(2, LOW - 1).narrowField(ADD, 2, 1), true, LOW);
        PROBE.exact("narrow 0 - 1", a().move(2, 0).narrowField(SUBTRACT, 2, 1), true, LOW);
        PROBE.exact("NEGATE of the least long", a().wide(2, MIN).negate(2), true, MIN);
        PROBE.exact("NEGATE of 0", a().move(2, 0).negate(2), true, 0);
        PROBE.exact("narrow NEGATE of 2^31", a().wide(2, 1L << 31).raw(132, 2, 0, 0, 0), true, 1L << 31);
    }

    private static void readNumbers() {
        for (int bytes = 1; bytes <= 4; bytes *= 2) {
            long most = (1L << 8 * bytes) - 1;
            PROBE.unsigned("a READ NUMBER of " + bytes, a().load(bytes, 2, 1, 16), 0, most);
            PROBE.signed("a READ NUMBER of " + bytes, a().load(bytes, 2, 1, 16), 0, most);
            PROBE.bits("a READ NUMBER of " + bytes, a().load(bytes, 2, 1, 16), 0, ~most);
        }
        PROBE.unsigned("a READ NUMBER of 8", a().load(8, 2, 1, 16), 0, -1);
        PROBE.signed("a READ NUMBER of 8", a().load(8, 2, 1, 16), MIN, MAX);
        PROBE.bits("a READ NUMBER of 8", a().load(8, 2, 1, 16), 0, 0);
    }

    /** Unsigned bounds with the same highest bit are signed ones, too. */
    private static void settledSigned() {
        PROBE.signed("up to the greatest long", unsigned(2, MAX - 5, MAX), MAX - 5, MAX);
        PROBE.signed("one beyond it", unsigned(2, MAX - 5, MIN), MIN, MAX);
        PROBE.signed("from the least long on", unsigned(2, MIN, MIN + 5), MIN, MIN + 5);
        PROBE.signed("from one ahead of it on", unsigned(2, MAX, MIN + 5), MIN, MAX);
        PROBE.signed("up to MOST", unsigned(2, -6, -1), -6, -1);
        PROBE.signed("0 and 1", unsigned(2, 0, 1), 0, 1);
    }

    /** Signed bounds of the same sign are unsigned ones, too. */
    private static void settledUnsigned() {
        PROBE.unsigned("from 0 on", signed(2, 0, 5), 0, 5);
        PROBE.unsigned("from -1 on", signed(2, -1, 5), 0, -1);
        PROBE.unsigned("up to -1", signed(2, -5, -1), -5, -1);
        PROBE.unsigned("up to 0", signed(2, -5, 0), 0, -1);
        PROBE.unsigned("all that are not below 0", signed(2, 0, MAX), 0, MAX);
        PROBE.unsigned("all that are below 0", signed(2, MIN, -1), MIN, -1);
        PROBE.signed("from -1 on", signed(2, -1, 5), -1, 5);
        PROBE.signed("up to 0", signed(2, -5, 0), -5, 0);
    }

    /** The bits above the highest one in which the bounds differ are known. */
    private static void settledBits() {
        PROBE.bits("[0x100, 0x1FF]", unsigned(2, 0x100, 0x1FF), 0x100, ~0x1FFL);
        PROBE.bits("[0xFF, 0x100]", unsigned(2, 0xFF, 0x100), 0, ~0x1FFL);
        PROBE.bits("[0x140, 0x143]", unsigned(2, 0x140, 0x143), 0x140, ~0x143L);
        PROBE.bits("[MAX, MIN]", unsigned(2, MAX, MIN), 0, 0);
        PROBE.bits("[MIN, MOST]", unsigned(2, MIN, -1), MIN, 0);
        PROBE.bits("[0, MAX]", unsigned(2, 0, MAX), 0, MIN);
        PROBE.bits("[LOW, LOW + 1]", unsigned(2, LOW, LOW + 1), 0, -1L << 33);
        PROBE.bits("[2^32, 2^33 - 1]", unsigned(2, LOW + 1, 2 * LOW + 1), LOW + 1, -1L << 33);
        PROBE.bits("[6, 7]", unsigned(2, 6, 7), 6, ~7L);
        PROBE.exact("[7, 7]", unsigned(2, 7, 7).field(ADD, 2, 0), true, 7);
        PROBE.exact("[MIN, MIN]", unsigned(2, MIN, MIN).field(ADD, 2, 0), true, MIN);
        for (int i = 1; i < 64; i++) {
            long bit = 1L << i;
            PROBE.ways("bit " + i + " of the bounds differs", unsigned(2, bit - 1, bit), Assembly.MEET, bit, true, true);
            PROBE.ways("bit " + i + " of the bounds is the same", unsigned(2, bit, bit + (bit - 1)), Assembly.MEET, bit, true, false);
            PROBE.ways("the bit below it is not known", unsigned(2, bit, bit + (bit - 1)), Assembly.MEET, bit >>> 1, true, true);
        }
    }

    /** Even numbers: bounds that draw together on an odd one have none within. */
    private static void settledEmpty() {
        Assembly even = a().load(8, 2, 1, 16).field(Assembly.LEFT, 2, 1);
        PROBE.ways("[5, 5] of even numbers", both(again(even), a().ifField(NOT_BELOW, 2, 5, 2).leave(0)), NOT_ABOVE, 5, false, true);
        PROBE.ways("[6, 6] of even numbers", both(again(even), a().ifField(NOT_BELOW, 2, 6, 2).leave(0)), NOT_ABOVE, 6, true, true);
        PROBE.ways("[5, 6] of even numbers", both(again(even), a().ifField(NOT_BELOW, 2, 5, 2).leave(0)), NOT_ABOVE, 6, true, true);
        PROBE.ways("least above greatest", unsigned(2, 5, 100), Assembly.BELOW, 5, false, true);
        PROBE.ways("least and greatest the same", unsigned(2, 5, 100), Assembly.BELOW, 6, true, true);
        PROBE.ways("signed least above greatest", signed(2, -5, 100), Assembly.LESS, -5, false, true);
        PROBE.ways("signed least and greatest the same", signed(2, -5, 100), Assembly.LESS, -4, true, true);
        PROBE.ways("unsigned bounds above all signed ones", unsigned(2, MIN, -1), NOT_LESS, 0, false, true);
        PROBE.ways("unsigned bounds that reach them", unsigned(2, MAX, -1), NOT_LESS, 0, true, true);
        PROBE.ways("signed bounds below all unsigned ones", signed(2, MIN, -1), Assembly.BELOW, MIN, false, true);
        PROBE.ways("signed bounds that reach them", signed(2, MIN, 0), Assembly.BELOW, MIN, true, true);
        PROBE.ways("bits above the greatest", a().load(1, 2, 1, 16).field(Assembly.OR, 2, 0x40), Assembly.BELOW, 0x40, false, true);
        PROBE.ways("bits not above the greatest", a().load(1, 2, 1, 16).field(Assembly.OR, 2, 0x40), Assembly.BELOW, 0x41, true, true);
        PROBE.ways("bits below the least", a().load(1, 2, 1, 16).field(Assembly.AND, 2, 0x41), Assembly.ABOVE, 0x41, false, true);
        PROBE.ways("bits not below the least", a().load(1, 2, 1, 16).field(Assembly.AND, 2, 0x41), Assembly.ABOVE, 0x40, true, true);
    }

    /** Bounds and bits draw one another together: what the third time finds out, a quotient of the bounds shows. */
    private static void settledThreeTimes() {
        Assembly raised = a().load(8, 2, 1, 16).field(Assembly.OR, 2, 1).field(Assembly.AND, 2, -13).ifField(NOT_BELOW, 2, 2, 2).leave(0)
            .ifField(NOT_ABOVE, 2, 10, 2).leave(0);
        PROBE.exact("3 is the only one whose lowest bits are 00x1", again(raised).field(ADD, 2, 0), true, 3);
        PROBE.exact("its least is 3, too", again(raised).field(Assembly.DIVIDE, 2, 3), true, 1);
        Assembly lowered = a().load(8, 2, 1, 16).field(Assembly.OR, 2, 12).field(Assembly.AND, 2, -2).ifField(NOT_BELOW, 2, 5, 2).leave(0)
            .ifField(NOT_ABOVE, 2, 13, 2).leave(0);
        PROBE.exact("12 is the only one whose lowest bits are 11x0", again(lowered).field(ADD, 2, 0), true, 12);
        PROBE.exact("its greatest is 12, too", again(lowered).field(Assembly.DIVIDE, 2, 13), true, 0);
    }

    /** [2, 4] of numbers whose lowest bits are 01: no long agrees, and a result that is EMPTY by that is ANY. */
    private static void emptyResults() {
        Assembly none = a().load(8, 2, 1, 16).field(Assembly.LEFT, 2, 2).field(Assembly.OR, 2, 1).ifField(NOT_BELOW, 2, 2, 2).leave(0)
            .ifField(NOT_ABOVE, 2, 4, 2).leave(0);
        for (int k : new int[] {ADD, SUBTRACT}) {
            PROBE.unsigned("an EMPTY result", again(none).field(k, 2, 2), 0, -1);
            PROBE.signed("an EMPTY result", again(none).field(k, 2, 2), MIN, MAX);
            PROBE.bits("an EMPTY result", again(none).field(k, 2, 2), 0, 0);
            PROBE.exact("an EMPTY result", again(none).field(k, 2, 2), false, 0);
            PROBE.unsigned("a narrow EMPTY result", again(none).narrowField(k, 2, 2), 0, LOW);
            PROBE.bits("a narrow EMPTY result", again(none).narrowField(k, 2, 2), 0, ~LOW);
        }
    }

    private static Assembly again(Assembly program) {
        return both(a(), program);
    }

    private static void sums() {
        PROBE.unsigned("greatest ones that just do not wrap", two(5, 100, 7, -101).from(ADD, 2, 3), 12, -1);
        PROBE.unsigned("greatest ones that just wrap", two(5, 101, 7, -101).from(ADD, 2, 3), 0, -1);
        PROBE.unsigned("2^63 and one less", two(5, MIN, 7, MAX).from(ADD, 2, 3), 12, -1);
        PROBE.unsigned("2^63 twice", two(5, MIN, 7, MIN).from(ADD, 2, 3), 0, -1);
        PROBE.unsigned("a range and EXACT", unsigned(2, 5, -11).field(ADD, 2, 10), 15, -1);
        PROBE.unsigned("a range and EXACT that wraps", unsigned(2, 5, -10).field(ADD, 2, 10), 0, -1);
    }

    private static void signedSums() {
        PROBE.signed("just not over", twoSigned(-1, MAX - 10, -2, 10).from(ADD, 2, 3), -3, MAX);
        PROBE.signed("just over", twoSigned(-1, MAX - 10, -2, 11).from(ADD, 2, 3), MIN, MAX);
        PROBE.signed("just not under", twoSigned(MIN + 10, 1, -10, 2).from(ADD, 2, 3), MIN, 3);
        PROBE.signed("just under", twoSigned(MIN + 10, 1, -11, 2).from(ADD, 2, 3), MIN, MAX);
        PROBE.signed("under and over", twoSigned(MIN + 10, MAX - 10, -11, 11).from(ADD, 2, 3), MIN, MAX);
        PROBE.signed("neither", twoSigned(MIN + 10, MAX - 10, -10, 10).from(ADD, 2, 3), MIN, MAX);
        PROBE.signed("neither, and one less", twoSigned(MIN + 10, MAX - 10, -9, 9).from(ADD, 2, 3), MIN + 1, MAX - 1);
    }

    private static void differences() {
        PROBE.unsigned("least as great as greatest", two(100, 200, 5, 100).from(SUBTRACT, 2, 3), 0, 195);
        PROBE.unsigned("least one below greatest", two(99, 200, 5, 100).from(SUBTRACT, 2, 3), 0, -1);
        PROBE.unsigned("across 2^63", two(MIN, -1, 5, MIN).from(SUBTRACT, 2, 3), 0, -6);
        PROBE.unsigned("across 2^63, one below", two(MAX, -1, 5, MIN).from(SUBTRACT, 2, 3), 0, -1);
        PROBE.unsigned("EXACT from a range", unsigned(2, 10, -1).field(SUBTRACT, 2, 10), 0, -11);
        PROBE.unsigned("EXACT from a range that wraps", unsigned(2, 9, -1).field(SUBTRACT, 2, 10), 0, -1);
    }

    private static void signedDifferences() {
        PROBE.signed("just not under", twoSigned(MIN + 10, 5, -3, 10).from(SUBTRACT, 2, 3), MIN, 8);
        PROBE.signed("just under", twoSigned(MIN + 10, 5, -3, 11).from(SUBTRACT, 2, 3), MIN, MAX);
        PROBE.signed("just not over", twoSigned(-5, MAX - 10, -10, 3).from(SUBTRACT, 2, 3), -8, MAX);
        PROBE.signed("just over", twoSigned(-5, MAX - 10, -11, 3).from(SUBTRACT, 2, 3), MIN, MAX);
        PROBE.signed("NEGATE of all but the least long", signed(2, MIN + 1, 4).negate(2), -4, MAX);
        PROBE.signed("NEGATE of the least long, too", signed(2, MIN, 4).negate(2), MIN, MAX);
    }

    /** Even numbers: where a signed bound goes over, the bits are still known. */
    private static void overflowsLeaveBits() {
        Assembly low = both(a().load(8, 2, 1, 16).field(Assembly.LEFT, 2, 1), a().wide(3, MIN + 10).ifFrom(NOT_LESS, 2, 3, 2).leave(0)
            .ifField(NOT_GREATER, 2, 0, 2).leave(0));
        Assembly high = both(a().load(8, 2, 1, 16).field(Assembly.LEFT, 2, 1), a().wide(3, MAX - 9).ifFrom(NOT_GREATER, 2, 3, 2).leave(0)
            .ifField(NOT_LESS, 2, 0, 2).leave(0));
        Assembly[] over = {again(low).field(ADD, 2, -12), again(low).field(SUBTRACT, 2, 12), again(high).field(ADD, 2, 12), again(high).field(SUBTRACT, 2, -12)};
        Assembly[] inside = {again(low).field(ADD, 2, -10), again(low).field(SUBTRACT, 2, 10), again(high).field(ADD, 2, 8), again(high).field(SUBTRACT, 2, -8)};
        for (int i = 0; i < 4; i++) {
            PROBE.ways("over, " + i, over[i], Assembly.MEET, 1, false, true);
            PROBE.ways("inside, " + i, inside[i], Assembly.MEET, 1, false, true);
            PROBE.ways("a bound of what is over, " + i, over[i], Assembly.GREATER, i < 2 ? 0 : -1, true, true);
        }
        PROBE.ways("a bound of what is inside", inside[0], Assembly.GREATER, -10, false, true);
        PROBE.ways("a bound of what is inside", inside[1], Assembly.GREATER, -10, false, true);
        PROBE.ways("a bound of what is inside", inside[2], Assembly.LESS, 8, false, true);
        PROBE.ways("a bound of what is inside", inside[3], Assembly.LESS, 8, false, true);
    }

    private static void products() {
        PROBE.unsigned("both greatest are LOW", two(2, LOW, 3, LOW).from(MULTIPLY, 2, 3), 6, LOW * LOW);
        PROBE.unsigned("the first one is above it", two(2, LOW + 1, 3, LOW).from(MULTIPLY, 2, 3), 0, -1);
        PROBE.unsigned("the second one is above it", two(2, LOW, 3, LOW + 1).from(MULTIPLY, 2, 3), 0, -1);
        PROBE.exact("EXACT and not EXACT", unsigned(2, 0, LOW).field(MULTIPLY, 2, 3), false, 0);
        PROBE.exact("not EXACT and EXACT 0", unsigned(2, 0, -1).field(MULTIPLY, 2, 0), true, 0);
        PROBE.exact("EXACT 0 and not EXACT", unsigned(3, 0, -1).move(2, 0).from(MULTIPLY, 2, 3), true, 0);
        Assembly zeros = a().load(8, 2, 1, 16).load(8, 3, 1, 24);
        PROBE.bits("40 and 23 lowest bits are 0", both(again(zeros), a().field(Assembly.LEFT, 2, 40).field(Assembly.LEFT, 3, 23).from(MULTIPLY, 2, 3)), 0,
            MAX);
        PROBE.exact("40 and 23", both(again(zeros), a().field(Assembly.LEFT, 2, 40).field(Assembly.LEFT, 3, 23).from(MULTIPLY, 2, 3)), false, 0);
        PROBE.exact("40 and 24", both(again(zeros), a().field(Assembly.LEFT, 2, 40).field(Assembly.LEFT, 3, 24).from(MULTIPLY, 2, 3)), true, 0);
        PROBE.exact("63 and 63", both(again(zeros), a().field(Assembly.LEFT, 2, 63).field(Assembly.LEFT, 3, 63).from(MULTIPLY, 2, 3)), true, 0);
        PROBE.bits("1 and none", both(again(zeros), a().field(Assembly.LEFT, 2, 1).from(MULTIPLY, 2, 3)), 0, 1);
    }

    private static void quotients() {
        PROBE.exact("by EXACT 0", unsigned(2, 5, 100).move(3, 0).from(Assembly.DIVIDE, 2, 3), true, 0);
        PROBE.unsigned("by EXACT 1", unsigned(2, 5, 100).move(3, 1).from(Assembly.DIVIDE, 2, 3), 5, 100);
        PROBE.unsigned("by the least", unsigned(2, 50, 100).field(Assembly.DIVIDE, 2, 50), 1, 2);
        PROBE.unsigned("by one more than the least", unsigned(2, 50, 100).field(Assembly.DIVIDE, 2, 51), 0, 1);
        PROBE.exact("by one more than the greatest", unsigned(2, 50, 100).field(Assembly.DIVIDE, 2, 101), true, 0);
        PROBE.unsigned("by the greatest", unsigned(2, 50, 100).field(Assembly.DIVIDE, 2, 100), 0, 1);
        PROBE.unsigned("by what may be 0", both(unsigned(2, 50, 100), unsigned(3, 0, 1)).from(Assembly.DIVIDE, 2, 3), 0, 100);
        PROBE.unsigned("by what can't be 0", both(unsigned(2, 50, 100), unsigned(3, 60, 61)).from(Assembly.DIVIDE, 2, 3), 0, 100);
        PROBE.exact("narrow by EXACT 2^32", unsigned(2, 5, 100).wide(3, LOW + 1).narrowFrom(Assembly.DIVIDE, 2, 3), true, 0);
    }

    private static void rests() {
        PROBE.unsigned("by EXACT 0", unsigned(2, 50, 100).move(3, 0).from(Assembly.REST, 2, 3), 50, 100);
        PROBE.unsigned("by one more than the greatest", unsigned(2, 50, 100).field(Assembly.REST, 2, 101), 50, 100);
        PROBE.unsigned("by the greatest", unsigned(2, 50, 100).field(Assembly.REST, 2, 100), 0, 99);
        PROBE.exact("by EXACT 1", unsigned(2, 50, 100).field(Assembly.REST, 2, 1), true, 0);
        PROBE.unsigned("by EXACT 2", unsigned(2, 50, 100).field(Assembly.REST, 2, 2), 0, 1);
        PROBE.unsigned("by what may be 0", both(unsigned(2, 50, 100), unsigned(3, 0, 1)).from(Assembly.REST, 2, 3), 0, 100);
        PROBE.unsigned("by MOST", unsigned(2, 50, -2).field(Assembly.REST, 2, -1), 50, -2);
        PROBE.unsigned("MOST by MOST", unsigned(2, 50, -1).field(Assembly.REST, 2, -1), 0, -2);
        PROBE.unsigned("narrow by EXACT 2^32", unsigned(2, 50, 100).wide(3, LOW + 1).narrowFrom(Assembly.REST, 2, 3), 50, 100);
    }

    private static void shifts() {
        PROBE.unsigned("no 1 among the 56 highest", unsigned(2, 5, 255).field(Assembly.LEFT, 2, 56), 5L << 56, 255L << 56);
        PROBE.unsigned("one among the 57 highest", unsigned(2, 5, 255).field(Assembly.LEFT, 2, 57), 0, 0xFEL << 56);
        PROBE.unsigned("one among the 56 highest", unsigned(2, 5, 256).field(Assembly.LEFT, 2, 56), 0, 255L << 56);
        PROBE.unsigned("LEFT by 0", unsigned(2, 5, -1).field(Assembly.LEFT, 2, 0), 5, -1);
        PROBE.unsigned("LEFT by 1", unsigned(2, 5, MAX).field(Assembly.LEFT, 2, 1), 10, -2);
        PROBE.unsigned("LEFT by 1 of 2^63", unsigned(2, 5, MIN).field(Assembly.LEFT, 2, 1), 0, -2);
        PROBE.bits("LEFT by 63", a().load(8, 2, 1, 16).field(Assembly.LEFT, 2, 63), 0, MAX);
        PROBE.unsigned("RIGHT by 0", unsigned(2, 5, -5).field(Assembly.RIGHT, 2, 0), 5, -5);
        PROBE.unsigned("RIGHT by 63", unsigned(2, MAX, MIN).field(Assembly.RIGHT, 2, 63), 0, 1);
        PROBE.exact("RIGHT by 63 of less than 2^63", unsigned(2, 5, MAX).field(Assembly.RIGHT, 2, 63), true, 0);
        PROBE.exact("RIGHT by 63 of 2^63 and more", unsigned(2, MIN, -1).field(Assembly.RIGHT, 2, 63), true, 1);
        PROBE.bits("RIGHT: zeros come in", a().load(8, 2, 1, 16).field(Assembly.OR, 2, -256).field(Assembly.RIGHT, 2, 4), -1L >>> 4 & ~15L, -1L << 60);
        PROBE.unsigned("RIGHT by 4 of 2^63 and more", unsigned(2, 5, -256).field(Assembly.RIGHT, 2, 4), 0, 0x0FFFFFFFFFFFFFF0L);
        PROBE.signed("RIGHT SIGNED of less than 0", signed(2, -20, -10).field(Assembly.RIGHT_SIGNED, 2, 1), -10, -5);
        PROBE.signed("RIGHT SIGNED by 0", signed(2, -5, 9).field(Assembly.RIGHT_SIGNED, 2, 0), -5, 9);
        PROBE.signed("RIGHT SIGNED by 1", signed(2, -5, 9).field(Assembly.RIGHT_SIGNED, 2, 1), -3, 4);
        PROBE.signed("RIGHT SIGNED by 63", signed(2, MIN, MAX).field(Assembly.RIGHT_SIGNED, 2, 63), -1, 0);
        PROBE.exact("RIGHT SIGNED by 63 of less than 0", signed(2, MIN, -1).field(Assembly.RIGHT_SIGNED, 2, 63), true, -1);
        PROBE.exact("RIGHT SIGNED by 63 of 0 and more", signed(2, 0, MAX).field(Assembly.RIGHT_SIGNED, 2, 63), true, 0);
        PROBE.bits("RIGHT SIGNED of a 1", a().load(1, 2, 1, 16).wide(3, MIN).from(Assembly.OR, 2, 3).field(Assembly.RIGHT_SIGNED, 2, 4), -1L << 59,
            0x07FFFFFFFFFFFFF0L);
    }

    private static void shiftsByRegisters() {
        long[] shifts = {0, 1, 63, 64, 65, -1, -64, 1L << 32, (1L << 32) + 1};
        for (long shift : shifts) {
            long s = shift & 63;
            PROBE.exact("LEFT of 3 by " + shift, a().move(2, 3).wide(3, shift).from(Assembly.LEFT, 2, 3), true, 3L << s);
            PROBE.exact("RIGHT of -3 by " + shift, a().move(2, -3).wide(3, shift).from(Assembly.RIGHT, 2, 3), true, -3L >>> s);
            PROBE.exact("RIGHT SIGNED of -3 by " + shift, a().move(2, -3).wide(3, shift).from(Assembly.RIGHT_SIGNED, 2, 3), true, -3L >> s);
            long narrow = shift & 31;
            PROBE.exact("narrow LEFT of 3 by " + shift, a().move(2, 3).wide(3, shift).narrowFrom(Assembly.LEFT, 2, 3), true, 3L << narrow & LOW);
            PROBE.exact("narrow RIGHT of -3 by " + shift, a().move(2, -3).wide(3, shift).narrowFrom(Assembly.RIGHT, 2, 3), true, LOW - 2 >>> narrow);
            PROBE.exact("narrow RIGHT SIGNED of 99 by " + shift, a().move(2, 99).wide(3, shift).narrowFrom(Assembly.RIGHT_SIGNED, 2, 3), true, 99L >> narrow);
        }
        for (int shift = 31; shift <= 33; shift++) {
            PROBE.exact("narrow RIGHT of 2^31 by " + shift, a().wide(2, 1L << 31).move(3, shift).narrowFrom(Assembly.RIGHT, 2, 3), true,
                (1L << 31) >>> (shift & 31));
        }
        for (int k : new int[] {Assembly.LEFT, Assembly.RIGHT, Assembly.RIGHT_SIGNED}) {
            PROBE.unsigned("by what is not EXACT", both(unsigned(2, 4, 5), unsigned(3, 0, 1)).from(k, 2, 3), 0, -1);
            PROBE.unsigned("narrow by what is not EXACT", both(unsigned(2, 4, 5), unsigned(3, 0, 1)).narrowFrom(k, 2, 3), 0, LOW);
        }
    }

    private static void turns() {
        PROBE.unsigned("CUT to 2 of just as much", unsigned(2, 5, 0xFFFF).cut(2, 16), 5, 0xFFFF);
        PROBE.unsigned("CUT to 2 of one more", unsigned(2, 5, 0x10000).cut(2, 16), 0, 0xFFFF);
        PROBE.unsigned("CUT to 4 of just as much", unsigned(2, 5, LOW).cut(2, 32), 5, LOW);
        PROBE.unsigned("CUT to 4 of one more", unsigned(2, 5, LOW + 1).cut(2, 32), 0, LOW);
        PROBE.unsigned("CUT to 8", unsigned(2, 5, -1).cut(2, 64), 5, -1);
        PROBE.exact("CUT to 2 of EXACT", a().wide(2, 0x1FFFEL).cut(2, 16), true, 0xFFFE);
        PROBE.exact("CUT to 4 of EXACT", a().wide(2, -2).cut(2, 32), true, LOW - 1);
        PROBE.unsigned("SWAP of 2", unsigned(2, 5, 6).swap(2, 16), 0, 0xFFFF);
        PROBE.unsigned("SWAP of 4", unsigned(2, 5, 6).swap(2, 32), 0, LOW);
        PROBE.unsigned("SWAP of 8", unsigned(2, 5, 6).swap(2, 64), 0, -1);
        PROBE.exact("SWAP of 2 of EXACT", a().wide(2, 0x55667788L).swap(2, 16), true, 0x8877);
        PROBE.exact("SWAP of 4 of EXACT", a().wide(2, 0x1122334455667788L).swap(2, 32), true, 0x88776655L);
        PROBE.exact("SWAP of 8 of EXACT", a().wide(2, 0x1122334455667788L).swap(2, 64), true, 0x8877665544332211L);
        PROBE.exact("SWAP of EXACT by bounds", unsigned(2, 0x1234, 0x1234).swap(2, 16), true, 0x3412);
    }

    private static void narrowed() {
        PROBE.unsigned("greatest LOW", unsigned(2, 5, LOW).narrowFrom(Assembly.MOVE, 2, 2), 5, LOW);
        PROBE.unsigned("greatest above LOW", unsigned(2, 5, LOW + 1).narrowFrom(Assembly.MOVE, 2, 2), 0, LOW);
        PROBE.unsigned("the same highest bits", unsigned(2, LOW + 1, LOW + 6).narrowFrom(Assembly.MOVE, 2, 2), 0, 5);
        PROBE.unsigned("the same highest bits up to the end", unsigned(2, LOW + 3, 2 * LOW + 1).narrowFrom(Assembly.MOVE, 2, 2), 2, LOW);
        PROBE.unsigned("one beyond it", unsigned(2, LOW + 3, 2 * LOW + 2).narrowFrom(Assembly.MOVE, 2, 2), 0, LOW);
        PROBE.unsigned("one ahead of it", unsigned(2, LOW, LOW + 6).narrowFrom(Assembly.MOVE, 2, 2), 0, LOW);
        PROBE.signed("from 0 up to LOW", unsigned(2, 5, -1).narrowFrom(Assembly.MOVE, 2, 2), 0, LOW);
        PROBE.bits("the bits of LOW alone", a().load(8, 2, 1, 16).field(Assembly.OR, 2, -16).narrowFrom(Assembly.MOVE, 2, 2), LOW - 15, ~LOW);
        PROBE.unsigned("narrow ADD up to LOW", unsigned(2, 5, LOW - 10).narrowField(ADD, 2, 10), 15, LOW);
        PROBE.unsigned("narrow ADD of one more", unsigned(2, 5, LOW - 9).narrowField(ADD, 2, 10), 0, LOW);
        PROBE.unsigned("narrow SUBTRACT down to 0", unsigned(2, 10, 20).narrowField(SUBTRACT, 2, 10), 0, 10);
        PROBE.unsigned("narrow SUBTRACT of one more", unsigned(2, 9, 20).narrowField(SUBTRACT, 2, 10), 0, LOW);
        PROBE.unsigned("narrow MULTIPLY up to LOW", unsigned(2, 5, 0x55555555L).narrowField(MULTIPLY, 2, 3), 15, LOW);
        PROBE.unsigned("narrow MULTIPLY of one more", unsigned(2, 5, 0x55555556L).narrowField(MULTIPLY, 2, 3), 0, LOW);
        PROBE.unsigned("narrow LEFT up to the highest bit", unsigned(2, 5, 255).narrowField(Assembly.LEFT, 2, 24), 5L << 24, 255L << 24);
        PROBE.unsigned("narrow LEFT of one more", unsigned(2, 5, 256).narrowField(Assembly.LEFT, 2, 24), 0, 255L << 24);
        PROBE.unsigned("narrow RIGHT", unsigned(2, LOW + 1, LOW + 6).narrowField(Assembly.RIGHT, 2, 1), 0, 2);
    }

    private static void narrowRightSigned() {
        PROBE.unsigned("below 2^31", unsigned(2, 16, 0x7FFFFFFFL).narrowField(Assembly.RIGHT_SIGNED, 2, 4), 1, 0x7FFFFFFL);
        PROBE.unsigned("2^31", unsigned(2, 16, 0x80000000L).narrowField(Assembly.RIGHT_SIGNED, 2, 4), 0, LOW);
        PROBE.exact("EXACT 2^31 - 1", a().wide(2, 0x7FFFFFFFL).narrowField(Assembly.RIGHT_SIGNED, 2, 30), true, 1);
        PROBE.exact("EXACT 2^31", a().wide(2, 0x80000000L).narrowField(Assembly.RIGHT_SIGNED, 2, 30), false, 0);
        PROBE.exact("2^32 and more is narrowed first", a().wide(2, LOW + 17).narrowField(Assembly.RIGHT_SIGNED, 2, 4), true, 1);
    }

    /** What a relation tells of both, where it holds and where its contrary does not: the bounds of TO, then of FROM. */
    private static void orders() {
        int[] ks = {Assembly.ABOVE, NOT_BELOW, Assembly.BELOW, NOT_ABOVE};
        int[] contrary = {NOT_ABOVE, Assembly.BELOW, NOT_BELOW, Assembly.ABOVE};
        int[] signedKs = {Assembly.GREATER, NOT_LESS, Assembly.LESS, NOT_GREATER};
        int[] signedContrary = {NOT_GREATER, Assembly.LESS, NOT_LESS, Assembly.GREATER};
        long[][] told = {{21, 50, 20, 49}, {20, 50, 20, 50}, {20, 49, 21, 50}, {20, 50, 20, 50}};
        for (int i = 0; i < 4; i++) {
            Assembly numbers = i < 2 ? two(10, 50, 20, 60) : two(20, 60, 10, 50);
            Assembly holds = both(again(numbers), a().ifFrom(ks[i], 2, 3, 2).leave(0));
            Assembly holdsNot = both(again(numbers), a().ifFrom(contrary[i], 2, 3, 1).jump(2).leave(0));
            for (Assembly way : new Assembly[] {holds, holdsNot}) {
                PROBE.unsigned("TO of relation " + ks[i], way, told[i][0], told[i][1]);
                PROBE.unsigned("FROM of relation " + ks[i], again(way).copy(2, 3), told[i][2], told[i][3]);
            }
            // The same, 35 less: across 0.
            Assembly signed = i < 2 ? twoSigned(-25, 15, -15, 25) : twoSigned(-15, 25, -25, 15);
            Assembly signedHolds = both(again(signed), a().ifFrom(signedKs[i], 2, 3, 2).leave(0));
            Assembly signedHoldsNot = both(again(signed), a().ifFrom(signedContrary[i], 2, 3, 1).jump(2).leave(0));
            for (Assembly way : new Assembly[] {signedHolds, signedHoldsNot}) {
                PROBE.signed("TO of relation " + signedKs[i], way, told[i][0] - 35, told[i][1] - 35);
                PROBE.signed("FROM of relation " + signedKs[i], again(way).copy(2, 3), told[i][2] - 35, told[i][3] - 35);
            }
        }
    }

    /** Bounds that are within what a relation tells stay as they are, of TO and of FROM. */
    private static void ordersThatTellNothing() {
        int[] ks = {Assembly.ABOVE, NOT_BELOW, Assembly.BELOW, NOT_ABOVE};
        int[] signedKs = {Assembly.GREATER, NOT_LESS, Assembly.LESS, NOT_GREATER};
        for (int i = 0; i < 4; i++) {
            boolean isUp = i < 2;
            Assembly way = both(isUp ? two(20, 60, 10, 50) : two(10, 50, 20, 60), a().ifFrom(ks[i], 2, 3, 2).leave(0));
            PROBE.unsigned("TO of relation " + ks[i] + " stays", way, isUp ? 20 : 10, isUp ? 60 : 50);
            PROBE.unsigned("FROM of relation " + ks[i] + " stays", again(way).copy(2, 3), isUp ? 10 : 20, isUp ? 50 : 60);
            Assembly signed = both(isUp ? twoSigned(-15, 25, -25, 15) : twoSigned(-25, 15, -15, 25), a().ifFrom(signedKs[i], 2, 3, 2).leave(0));
            PROBE.signed("TO of relation " + signedKs[i] + " stays", signed, isUp ? -15 : -25, isUp ? 25 : 15);
            PROBE.signed("FROM of relation " + signedKs[i] + " stays", again(signed).copy(2, 3), isUp ? -25 : -15, isUp ? 15 : 25);
        }
    }

    private static void ordersThatCantHold() {
        PROBE.ways("0 above MOST", a().move(2, 0), Assembly.ABOVE, -1, false, true);
        PROBE.ways("ANY above MOST", a().load(8, 2, 1, 16), Assembly.ABOVE, -1, false, true);
        PROBE.ways("ANY above MOST - 1", a().load(8, 2, 1, 16), Assembly.ABOVE, -2, true, true);
        PROBE.ways("MOST below 0", a().move(2, -1), Assembly.BELOW, 0, false, true);
        PROBE.ways("ANY below 0", a().load(8, 2, 1, 16), Assembly.BELOW, 0, false, true);
        PROBE.ways("ANY below 1", a().load(8, 2, 1, 16), Assembly.BELOW, 1, true, true);
        PROBE.ways("0 above ANY", a().move(2, 0), Assembly.ABOVE, 0, false, true);
        PROBE.ways("the least long greater than the greatest", a().wide(2, MIN), Assembly.GREATER, MAX, false, true);
        PROBE.ways("ANY greater than the greatest long", a().load(8, 2, 1, 16), Assembly.GREATER, MAX, false, true);
        PROBE.ways("ANY greater than one less", a().load(8, 2, 1, 16), Assembly.GREATER, MAX - 1, true, true);
        PROBE.ways("the greatest long less than the least", a().wide(2, MAX), Assembly.LESS, MIN, false, true);
        PROBE.ways("ANY less than the least long", a().load(8, 2, 1, 16), Assembly.LESS, MIN, false, true);
        PROBE.ways("ANY less than one more", a().load(8, 2, 1, 16), Assembly.LESS, MIN + 1, true, true);
        PROBE.ways("ANY not below 0", a().load(8, 2, 1, 16), NOT_BELOW, 0, true, false);
        PROBE.ways("ANY not below 1", a().load(8, 2, 1, 16), NOT_BELOW, 1, true, true);
        PROBE.ways("ANY not above MOST", a().load(8, 2, 1, 16), NOT_ABOVE, -1, true, false);
        PROBE.ways("ANY not above MOST - 1", a().load(8, 2, 1, 16), NOT_ABOVE, -2, true, true);
        PROBE.ways("ANY not less than the least long", a().load(8, 2, 1, 16), NOT_LESS, MIN, true, false);
        PROBE.ways("ANY not greater than the greatest long", a().load(8, 2, 1, 16), NOT_GREATER, MAX, true, false);
        for (int k : new int[] {Assembly.ABOVE, Assembly.BELOW, Assembly.GREATER, Assembly.LESS, Assembly.NOT_SAME}) {
            PROBE.ways("5 and 5", a().move(2, 5), k, 5, false, true);
        }
        for (int k : new int[] {NOT_BELOW, NOT_ABOVE, NOT_LESS, NOT_GREATER, Assembly.SAME}) {
            PROBE.ways("5 and 5", a().move(2, 5), k, 5, true, false);
        }
    }

    private static void same() {
        PROBE.ways("within the bounds", unsigned(2, 10, 20), Assembly.SAME, 10, true, true);
        PROBE.ways("within the bounds", unsigned(2, 10, 20), Assembly.SAME, 20, true, true);
        PROBE.ways("one below", unsigned(2, 10, 20), Assembly.SAME, 9, false, true);
        PROBE.ways("one above", unsigned(2, 10, 20), Assembly.SAME, 21, false, true);
        PROBE.ways("signed bounds", signed(2, -10, 20), Assembly.SAME, -10, true, true);
        PROBE.ways("one less", signed(2, -10, 20), Assembly.SAME, -11, false, true);
        PROBE.ways("one greater", signed(2, -10, 20), Assembly.SAME, 21, false, true);
        PROBE.ways("a bit that is known", a().load(1, 2, 1, 16).field(Assembly.OR, 2, 4), Assembly.SAME, 4, true, true);
        PROBE.ways("a bit that differs", a().load(1, 2, 1, 16).field(Assembly.OR, 2, 4), Assembly.SAME, 3, false, true);
        PROBE.unsigned("both have what either knows", two(10, 50, 20, 60).ifFrom(Assembly.SAME, 2, 3, 2).leave(0), 20, 50);
        PROBE.unsigned("FROM, too", two(10, 50, 20, 60).ifFrom(Assembly.SAME, 2, 3, 2).leave(0).copy(2, 3), 20, 50);
        PROBE.signed("signed bounds of both", twoSigned(-50, 10, -60, 5).ifFrom(Assembly.SAME, 2, 3, 2).leave(0), -50, 5);
        PROBE.signed("signed bounds of both, FROM", twoSigned(-50, 10, -60, 5).ifFrom(Assembly.SAME, 2, 3, 2).leave(0).copy(2, 3), -50, 5);
        PROBE.bits("bits of both", a().load(1, 2, 1, 16).field(Assembly.OR, 2, 0x81).load(1, 3, 1, 17).field(Assembly.AND, 3, 0xF1)
            .ifFrom(Assembly.SAME, 2, 3, 2).leave(0).copy(2, 3), 0x81, ~0xF1L);
        PROBE.open("bounds that just meet", two(10, 20, 20, 30).ifFrom(Assembly.SAME, 2, 3, 0).leave(0), true, true);
        PROBE.open("bounds that just do not", two(10, 19, 20, 30).ifFrom(Assembly.SAME, 2, 3, 0).leave(0), false, true);
    }

    /** Register 2 is not the same as an EXACT number that stands in the relation as FROM, or as TO. */
    private static void notSame(String what, Assembly program, long c, boolean isSigned, long least, long greatest) {
        Assembly from = both(again(program), a().wide(3, c).ifFrom(Assembly.NOT_SAME, 2, 3, 2).leave(0));
        Assembly to = both(again(program), a().wide(3, c).ifFrom(Assembly.NOT_SAME, 3, 2, 2).leave(0));
        Assembly fallen = both(again(program), a().wide(3, c).ifFrom(Assembly.SAME, 2, 3, 1).jump(2).leave(0));
        for (Assembly told : new Assembly[] {from, to, fallen}) {
            if (isSigned) {
                PROBE.signed(what, told, least, greatest);
            } else {
                PROBE.unsigned(what, told, least, greatest);
            }
        }
    }

    private static void notSame() {
        notSame("the least", unsigned(2, 10, 20), 10, false, 11, 20);
        notSame("the greatest", unsigned(2, 10, 20), 20, false, 10, 19);
        notSame("one above the least", unsigned(2, 10, 20), 11, false, 10, 20);
        notSame("one below the greatest", unsigned(2, 10, 20), 19, false, 10, 20);
        notSame("one below the least", unsigned(2, 10, 20), 9, false, 10, 20);
        notSame("one above the greatest", unsigned(2, 10, 20), 21, false, 10, 20);
        notSame("the least of both halves", unsigned(2, 5, -5), 5, false, 6, -5);
        notSame("the greatest of both halves", unsigned(2, 5, -5), -5, false, 5, -6);
        notSame("0 of ANY", a().load(8, 2, 1, 16), 0, false, 1, -1);
        notSame("MOST of ANY", a().load(8, 2, 1, 16), -1, false, 0, -2);
        notSame("the signed least", signed(2, -5, 9), -5, true, -4, 9);
        notSame("the signed greatest", signed(2, -5, 9), 9, true, -5, 8);
        notSame("one greater than the signed least", signed(2, -5, 9), -4, true, -5, 9);
        notSame("one less than the signed greatest", signed(2, -5, 9), 8, true, -5, 9);
        notSame("the least long of ANY", a().load(8, 2, 1, 16), MIN, true, MIN + 1, MAX);
        notSame("the greatest long of ANY", a().load(8, 2, 1, 16), MAX, true, MIN, MAX - 1);
        notSame("one of two", unsigned(2, 7, 8), 7, false, 8, 8);
        notSame("the other of two", unsigned(2, 7, 8), 8, false, 7, 7);
        PROBE.ways("EXACT c", a().move(2, 7), Assembly.NOT_SAME, 7, false, true);
        PROBE.ways("EXACT c + 1", a().move(2, 8), Assembly.NOT_SAME, 7, true, false);
        PROBE.unsigned("two that are not EXACT", two(10, 20, 10, 20).ifFrom(Assembly.NOT_SAME, 2, 3, 2).leave(0), 10, 20);
    }

    private static void meets() {
        for (int i = 0; i < 64; i++) {
            long bit = 1L << i;
            Assembly any = a().load(8, 2, 1, 16).wide(3, bit);
            PROBE.ways("bit " + i + " where MEET holds", both(again(any), a().ifFrom(Assembly.MEET, 2, 3, 2).leave(0)), Assembly.MEET, bit, true, false);
            PROBE.ways("bit " + i + " where it does not", both(again(any), a().ifFrom(Assembly.MEET, 2, 3, 1).jump(2).leave(0)), Assembly.MEET, bit, false,
                true);
            PROBE.ways("bit " + i + " of FROM where MEET holds", both(again(any), a().ifFrom(Assembly.MEET, 3, 2, 2).leave(0)), Assembly.MEET, bit, true,
                false);
            PROBE.ways("bit " + i + " of FROM where it does not", both(again(any), a().ifFrom(Assembly.MEET, 3, 2, 1).jump(2).leave(0)), Assembly.MEET, bit,
                false, true);
        }
        Assembly byteNumber = a().load(1, 2, 1, 16);
        PROBE.bits("two 1: nothing is told where it holds", both(again(byteNumber), a().ifField(Assembly.MEET, 2, 3, 2).leave(0)), 0, ~255L);
        PROBE.bits("two 1: both are 0 where it does not", both(again(byteNumber), a().ifField(Assembly.MEET, 2, 3, 1).jump(2).leave(0)), 0, ~252L);
        PROBE.bits("two 1 of TO: nothing is told", both(again(byteNumber), a().move(3, 3).ifFrom(Assembly.MEET, 3, 2, 2).leave(0)), 0, ~255L);
        PROBE.bits("two 1 of TO: both are 0", both(again(byteNumber), a().move(3, 3).ifFrom(Assembly.MEET, 3, 2, 1).jump(2).leave(0)), 0, ~252L);
        PROBE.bits("one that is not EXACT: nothing is told", both(again(byteNumber), a().load(1, 3, 1, 17).field(Assembly.AND, 3, 1)
            .ifFrom(Assembly.MEET, 2, 3, 2).leave(0)), 0, ~255L);
        PROBE.bits("one that is not EXACT: nothing is told where it does not hold", both(again(byteNumber), a().load(1, 3, 1, 17).field(Assembly.OR, 3, 1)
            .field(Assembly.AND, 3, 3).ifFrom(Assembly.MEET, 2, 3, 1).jump(2).leave(0)), 0, ~255L);
        PROBE.bits("TO that is not EXACT: nothing is told where it does not hold", both(again(byteNumber), a().load(1, 3, 1, 17)
            .field(Assembly.OR, 3, 1).field(Assembly.AND, 3, 3).ifFrom(Assembly.MEET, 3, 2, 1).jump(2).leave(0)), 0, ~255L);
        PROBE.ways("no place in which both may be 1", byteNumber, Assembly.MEET, 256, false, true);
        PROBE.ways("one place", byteNumber, Assembly.MEET, 128 + 256, true, true);
        PROBE.ways("both have a 1", both(again(byteNumber), a().field(Assembly.OR, 2, 128)), Assembly.MEET, 128 + 256, true, false);
        PROBE.ways("nothing meets 0", byteNumber, Assembly.MEET, 0, false, true);
    }

    /** Bits that were known stay so where MEET holds and where it does not, with the EXACT number as FROM and as TO. */
    private static void meetsLeaveBits() {
        Assembly known = a().load(1, 2, 1, 16).field(Assembly.AND, 2, 0xF0).field(Assembly.OR, 2, 1).move(3, 16);
        for (int turn = 0; turn < 2; turn++) {
            int to = 2 + turn;
            int from = 3 - turn;
            PROBE.bits("MEET of " + to + " and " + from, both(again(known), a().ifFrom(Assembly.MEET, to, from, 2).leave(0)), 0x11, ~0xF1L);
            PROBE.bits("NOT MEET of " + to + " and " + from, both(again(known), a().ifFrom(Assembly.MEET, to, from, 1).jump(2).leave(0)), 1, ~0xE1L);
        }
    }

    /** Unsigned ones are told of up to LOW; of more only whether they can hold of the lowest 32 bits. */
    private static void narrowRelations() {
        PROBE.unsigned("greatest LOW", unsigned(2, 5, LOW).ifNarrowField(Assembly.ABOVE, 2, 9, 2).leave(0), 10, LOW);
        PROBE.unsigned("greatest above LOW", unsigned(2, 5, LOW + 1).ifNarrowField(Assembly.ABOVE, 2, 9, 2).leave(0), 5, LOW + 1);
        PROBE.unsigned("FROM's greatest LOW", two(5, 100, 50, LOW).ifNarrowFrom(Assembly.ABOVE, 2, 3, 2).leave(0), 51, 100);
        PROBE.unsigned("FROM's greatest above LOW", two(5, 100, 50, LOW + 1).ifNarrowFrom(Assembly.ABOVE, 2, 3, 2).leave(0), 5, 100);
        PROBE.unsigned("FIELD of -1 tells nothing", unsigned(2, 5, 100).ifNarrowField(Assembly.BELOW, 2, -1, 2).leave(0), 5, 100);
        PROBE.narrowWays("LOW above LOW - 1", a().wide(2, LOW), Assembly.ABOVE, -2, true, false);
        PROBE.narrowWays("LOW above LOW", a().wide(2, LOW), Assembly.ABOVE, -1, false, true);
        PROBE.narrowWays("2^32 is narrowed to 0", a().wide(2, LOW + 1), Assembly.SAME, 0, true, false);
        PROBE.narrowWays("2^32 is not 1", a().wide(2, LOW + 1), Assembly.SAME, 1, false, true);
        PROBE.narrowWays("2^32 + 1 meets 1", a().wide(2, LOW + 2), Assembly.MEET, 1, true, false);
        PROBE.narrowWays("2^32 meets nothing", a().wide(2, LOW + 1), Assembly.MEET, -1, false, true);
        PROBE.narrowWays("[2^32, 2^32 + 5] below 6", unsigned(2, LOW + 1, LOW + 6), Assembly.BELOW, 6, true, false);
        PROBE.narrowWays("[2^32, 2^32 + 5] below 5", unsigned(2, LOW + 1, LOW + 6), Assembly.BELOW, 5, true, true);
        PROBE.narrowWays("[2^32, 2^32 + 5] not above 5", unsigned(2, LOW + 1, LOW + 6), NOT_ABOVE, 5, true, false);
        PROBE.narrowWays("[2^32, 2^32 + 5] not below 6", unsigned(2, LOW + 1, LOW + 6), NOT_BELOW, 6, false, true);
        PROBE.narrowWays("[2^32 + 1, 2^32 + 5] not the same as 0", unsigned(2, LOW + 2, LOW + 6), Assembly.NOT_SAME, 0, true, false);
        PROBE.narrowWays("ANY above LOW", a().load(8, 2, 1, 16), Assembly.ABOVE, -1, false, true);
        PROBE.narrowWays("ANY not above LOW", a().load(8, 2, 1, 16), NOT_ABOVE, -1, true, false);
    }

    /** Signed ones are told of below 2^31; of more they always can hold. */
    private static void narrowSignedRelations() {
        int[] ks = {Assembly.GREATER, NOT_LESS, Assembly.LESS, NOT_GREATER};
        long[][] wants = {{10, 0x7FFFFFFFL}, {9, 0x7FFFFFFFL}, {5, 8}, {5, 9}};
        for (int i = 0; i < 4; i++) {
            PROBE.unsigned("greatest 2^31 - 1", unsigned(2, 5, 0x7FFFFFFFL).ifNarrowField(ks[i], 2, 9, 2).leave(0), wants[i][0], wants[i][1]);
            PROBE.unsigned("greatest 2^31", unsigned(2, 5, 0x80000000L).ifNarrowField(ks[i], 2, 9, 2).leave(0), 5, 0x80000000L);
            PROBE.unsigned("FROM's greatest 2^31", two(5, 100, 5, 0x80000000L).ifNarrowFrom(ks[i], 2, 3, 2).leave(0), 5, 100);
            PROBE.narrowWays("EXACT 2^31", a().wide(2, 0x80000000L), ks[i], 0, true, true);
            PROBE.narrowWays("EXACT 2^32", a().wide(2, LOW + 1), ks[i], 0, true, true);
            PROBE.narrowWays("FIELD of -1", a().move(2, 5), ks[i], -1, true, true);
        }
        PROBE.narrowWays("2^31 - 1 greater than 2^31 - 2", a().wide(2, 0x7FFFFFFFL), Assembly.GREATER, 0x7FFFFFFE, true, false);
        PROBE.narrowWays("2^31 - 1 greater than itself", a().wide(2, 0x7FFFFFFFL), Assembly.GREATER, 0x7FFFFFFF, false, true);
        PROBE.narrowWays("0 less than 0", a().move(2, 0), Assembly.LESS, 0, false, true);
        PROBE.narrowWays("0 not less than 0", a().move(2, 0), NOT_LESS, 0, true, false);
        PROBE.narrowWays("0 not greater than 0", a().move(2, 0), NOT_GREATER, 0, true, false);
    }
}
