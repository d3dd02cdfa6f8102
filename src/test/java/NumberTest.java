/** Promise 4 and 6, section Z: what is known of numbers, seen by the ways that are open. */
public final class NumberTest {
    private static final Checker CHECK = new Checker("NumberTest");
    private static final Probe PROBE = new Probe(CHECK);
    private static final int ABOVE = Assembly.ABOVE;
    private static final int BELOW = Assembly.BELOW;
    private static final int GREATER = Assembly.GREATER;
    private static final int LESS = Assembly.LESS;
    private static final int MEET = Assembly.MEET;

    private NumberTest() {
    }

    public static void main(String[] args) {
        sums();
        products();
        divisions();
        divisionsOfExact();
        bitwise();
        shifts();
        turns();
        narrow();
        exactOperations();
        toldByOrder();
        toldBySame();
        toldByMeet();
        toldNarrow();
        CHECK.end();
    }

    private static Assembly a() {
        return new Assembly();
    }

    /** 2 is a byte, [0, 255]; 3 is another one; 4 is ANY. */
    private static Assembly x() {
        return a().load(1, 2, 1, 16).load(1, 3, 1, 17).load(8, 4, 1, 24);
    }

    private static void ways(String what, Assembly program, int k, long number, boolean goes, boolean falls) {
        PROBE.ways(what, program, k, number, goes, falls);
    }

    private static void unsigned(String what, Assembly program, long least, long greatest) {
        PROBE.unsigned(what, program, least, greatest);
    }

    private static void signed(String what, Assembly program, long least, long greatest) {
        PROBE.signed(what, program, least, greatest);
    }

    private static void bits(String what, Assembly program, long ones, long zeros) {
        PROBE.bits(what, program, ones, zeros);
    }

    private static void exact(String what, Assembly program, long want) {
        PROBE.exact(what, program, true, want);
    }

    private static void sums() {
        unsigned("ADD", x().from(Assembly.ADD, 2, 3), 0, 510);
        unsigned("ADD of FIELD", x().field(Assembly.ADD, 2, 10), 10, 265);
        bits("ADD", x().field(Assembly.AND, 2, 0xF0).field(Assembly.ADD, 2, 3), 3, ~0xF3L);
        bits("ADD with a carry", x().field(Assembly.AND, 2, 0x0F).field(Assembly.ADD, 2, 0x100), 0x100, ~0x10FL);
        signed("ADD below 0", x().field(Assembly.ADD, 2, -100), -100, 155);
        unsigned("ADD that wraps", x().field(Assembly.ADD, 2, -100), 0, -1);
        unsigned("ADD of the greatest", x().field(Assembly.ADD, 2, -256), -256, -1);
        unsigned("ADD of ANY", x().from(Assembly.ADD, 2, 4), 0, -1);
        signed("SUBTRACT", x().from(Assembly.SUBTRACT, 2, 3), -255, 255);
        unsigned("SUBTRACT", x().field(Assembly.ADD, 2, 300).from(Assembly.SUBTRACT, 2, 3), 45, 555);
        unsigned("SUBTRACT of just as much", x().field(Assembly.ADD, 2, 255).from(Assembly.SUBTRACT, 2, 3), 0, 510);
        bits("SUBTRACT", x().field(Assembly.AND, 2, 0xF0).field(Assembly.ADD, 2, 7).field(Assembly.SUBTRACT, 2, 2), 5, ~0xF5L);
        signed("NEGATE", x().negate(2), -255, 0);
        signed("ADD of one across 0 and a byte", x().field(Assembly.ADD, 2, -100).from(Assembly.ADD, 2, 3), -100, 410);
        signed("ADD of a byte and one across 0", x().field(Assembly.ADD, 3, -100).from(Assembly.ADD, 2, 3), -100, 410);
        signed("ADD of one below 0 and one across it", x().field(Assembly.ADD, 2, -400).field(Assembly.ADD, 3, -155).from(Assembly.ADD, 2, 3),
            -555, -45);
        signed("ADD of one across 0 and one below it", x().field(Assembly.ADD, 3, -400).field(Assembly.ADD, 2, -155).from(Assembly.ADD, 2, 3),
            -555, -45);
        signed("SUBTRACT of one below 0 from one across it", x().field(Assembly.ADD, 2, -100).field(Assembly.ADD, 3, -400)
            .from(Assembly.SUBTRACT, 2, 3), 45, 555);
        signed("SUBTRACT of a byte from one across 0", x().field(Assembly.ADD, 2, -100).from(Assembly.SUBTRACT, 2, 3), -355, 155);
        signed("SUBTRACT of two below 0", x().field(Assembly.ADD, 2, -400).field(Assembly.ADD, 3, -300).from(Assembly.SUBTRACT, 2, 3), -355, 155);
        unsigned("ADD across the greatest long", x().wide(5, Long.MAX_VALUE - 100).from(Assembly.ADD, 2, 5), Long.MAX_VALUE - 100,
            Long.MAX_VALUE + 155);
        unsigned("SUBTRACT across the greatest long", x().wide(5, Long.MAX_VALUE).from(Assembly.ADD, 2, 5).from(Assembly.SUBTRACT, 2, 3),
            Long.MAX_VALUE - 255, Long.MAX_VALUE + 255);
        signed("ADD above the greatest long", x().wide(5, Long.MAX_VALUE - 254).from(Assembly.ADD, 2, 5), Long.MIN_VALUE, Long.MAX_VALUE);
        signed("ADD up to the greatest long", x().wide(5, Long.MAX_VALUE - 255).from(Assembly.ADD, 2, 5), Long.MAX_VALUE - 255, Long.MAX_VALUE);
        signed("SUBTRACT below the least long", x().copy(5, 2).wide(2, Long.MIN_VALUE + 254).from(Assembly.SUBTRACT, 2, 5),
            Long.MIN_VALUE, Long.MAX_VALUE);
        signed("SUBTRACT down to the least long", x().copy(5, 2).wide(2, Long.MIN_VALUE + 255).from(Assembly.SUBTRACT, 2, 5),
            Long.MIN_VALUE, Long.MIN_VALUE + 255);
        signed("SUBTRACT above the greatest long", x().copy(5, 2).field(Assembly.ADD, 5, -255).wide(2, Long.MAX_VALUE - 254)
            .from(Assembly.SUBTRACT, 2, 5), Long.MIN_VALUE, Long.MAX_VALUE);
        signed("SUBTRACT up to the greatest long", x().copy(5, 2).field(Assembly.ADD, 5, -255).wide(2, Long.MAX_VALUE - 255)
            .from(Assembly.SUBTRACT, 2, 5), Long.MAX_VALUE - 255, Long.MAX_VALUE);
    }

    private static void products() {
        unsigned("MULTIPLY", x().from(Assembly.MULTIPLY, 2, 3), 0, 255 * 255);
        unsigned("MULTIPLY of bounds", x().field(Assembly.ADD, 2, 2).field(Assembly.MULTIPLY, 2, 10), 20, 2570);
        bits("MULTIPLY", x().field(Assembly.LEFT, 4, 3).field(Assembly.LEFT, 2, 2).from(Assembly.MULTIPLY, 2, 4), 0, 31);
        bits("MULTIPLY by 0", x().move(2, 0).from(Assembly.MULTIPLY, 2, 4), 0, -1);
        unsigned("MULTIPLY of more than LOW", x().wide(5, 1L << 32).from(Assembly.MULTIPLY, 2, 5), 0, 0xFFFFFFFF00000000L);
        unsigned("DIVIDE", x().field(Assembly.ADD, 2, 20).field(Assembly.DIVIDE, 2, 10), 2, 27);
        unsigned("DIVIDE by a register", x().from(Assembly.DIVIDE, 2, 4), 0, 255);
        exact("DIVIDE by 0", x().move(5, 0).from(Assembly.DIVIDE, 2, 5), 0);
        unsigned("DIVIDE without sign", x().copy(2, 4).field(Assembly.DIVIDE, 2, -1), 0, 1);
        unsigned("REST", x().field(Assembly.REST, 2, 10), 0, 9);
        unsigned("REST by more", x().field(Assembly.ADD, 2, 5).field(Assembly.REST, 2, 261), 5, 260);
        unsigned("REST by the greatest", x().field(Assembly.ADD, 2, 5).field(Assembly.REST, 2, 260), 0, 259);
        unsigned("REST by 0", x().field(Assembly.ADD, 2, 5).move(5, 0).from(Assembly.REST, 2, 5), 5, 260);
        unsigned("REST by a register", x().field(Assembly.ADD, 2, 5).from(Assembly.REST, 2, 4), 0, 260);
    }

    /** 2 is [from, from + 255], 5 is the number by which it is divided. */
    private static Assembly byteFrom(long from, long by) {
        return x().wide(5, from).from(Assembly.ADD, 2, 5).wide(5, by);
    }

    private static void divisions() {
        long[] froms = {0, 1000, Long.MAX_VALUE - 255, Long.MAX_VALUE - 100, Long.MIN_VALUE, Long.MIN_VALUE + 100, 0xFEDCBA9876543210L, -1000, -256};
        long[] bys = {1, 2, 3, 100, 0x100000001L, Long.MAX_VALUE, Long.MIN_VALUE, Long.MIN_VALUE + 101, 0xFEDCBA9876543281L, -900, -256, -2, -1};
        for (long from : froms) {
            for (long by : bys) {
                String of = " of a byte from " + from + " on by " + by;
                long most = from + 255;
                unsigned("DIVIDE" + of, byteFrom(from, by).from(Assembly.DIVIDE, 2, 5), Unsigned.quotient(from, by), Unsigned.quotient(most, by));
                boolean isItself = Unsigned.isBelow(most, by);
                unsigned("REST" + of, byteFrom(from, by).from(Assembly.REST, 2, 5), isItself ? from : 0, isItself ? most : by - 1);
            }
        }
        for (long by : bys) {
            unsigned("DIVIDE of ANY by " + by, x().copy(2, 4).wide(5, by).from(Assembly.DIVIDE, 2, 5), 0, Unsigned.quotient(-1, by));
            unsigned("REST of ANY by " + by, x().copy(2, 4).wide(5, by).from(Assembly.REST, 2, 5), 0, by - 1);
        }
        unsigned("DIVIDE of the highest bit by a register", byteFrom(-256, 0).from(Assembly.DIVIDE, 2, 4), 0, -1);
        unsigned("REST of the highest bit by a register", byteFrom(-300, 0).from(Assembly.REST, 2, 4), 0, -45);
        unsigned("REST of the highest bit by 0", byteFrom(-300, 0).from(Assembly.REST, 2, 5), -300, -45);
        exact("DIVIDE of the highest bit by 0", byteFrom(-300, 0).from(Assembly.DIVIDE, 2, 5), 0);
        unsigned("DIVIDE by FIELD below 0", byteFrom(-300, 0).field(Assembly.DIVIDE, 2, -200), 0, 1);
        exact("DIVIDE by FIELD that is above", byteFrom(-300, 0).field(Assembly.DIVIDE, 2, -44), 0);
        exact("DIVIDE by FIELD that is not above", byteFrom(-300, 0).field(Assembly.DIVIDE, 2, -300), 1);
        unsigned("REST by FIELD below 0", byteFrom(-300, 0).field(Assembly.REST, 2, -200), 0, -201);
        unsigned("REST by FIELD that is above", byteFrom(-300, 0).field(Assembly.REST, 2, -44), -300, -45);
    }

    /** All that is found out of a program that divides two EXACT numbers. */
    private static void divisionsOfExact() {
        for (long x : Unsigned.NUMBERS) {
            for (long y : Unsigned.NUMBERS) {
                boolean isKnown = y == 0 || y == 1 || Unsigned.isBelow(x, y);
                divisionOfExact(Assembly.DIVIDE, x, y, true, Unsigned.quotient(x, y));
                divisionOfExact(Assembly.REST, x, y, isKnown, isKnown ? Unsigned.rest(x, y) : 0);
            }
        }
    }

    private static void divisionOfExact(int k, long x, long y, boolean isExact, long number) {
        FilterGuard guard = new FilterGuard();
        String what = "operation " + k + " of EXACT " + x + ", " + y;
        Assembly program = a().wide(0, x).wide(2, y).from(k, 0, 2).exit();
        CHECK.due(what, program.program(guard), 0);
        int[] about = {0, -1, 4, 0, 0, 1, 6, 6};
        for (int i = 0; i < about.length; i++) {
            CHECK.due(what + ": about " + i, guard.about(i), about[i]);
        }
        CHECK.due(what + ": visits", guard.fact(4, 0), 1);
        CHECK.due(what + ": is EXACT", guard.fact(4, 3), isExact ? 1 : 0);
        CHECK.due(what + ": the number", guard.fact(4, 4), number);
        boolean isMove = isExact && number == (int) number;
        CHECK.due(what + ": SHORTER", guard.code(4, true), isMove ? Assembly.slot(183, 0, 0, 0, (int) number) : program.word(4));
        CHECK.due(what + ": as it was", guard.code(4, false), program.word(4));
    }

    private static void bitwise() {
        bits("AND", x().copy(2, 4).field(Assembly.AND, 2, 0x3C), 0, ~0x3CL);
        unsigned("AND", x().field(Assembly.AND, 2, -1), 0, 255);
        unsigned("AND of two", x().from(Assembly.AND, 2, 4), 0, 255);
        unsigned("AND with the lesser greatest of FROM", x().ifField(ABOVE, 2, 200, 3).copy(5, 2).copy(2, 4).jump(2).leave(0)
            .from(Assembly.AND, 2, 5), 0, 200);
        unsigned("AND with the lesser greatest of TO", x().ifField(ABOVE, 2, 200, 1).jump(2).leave(0).from(Assembly.AND, 2, 4), 0, 200);
        unsigned("OR with the greater least of FROM", x().field(Assembly.ADD, 3, 5).from(Assembly.OR, 2, 3), 5, 511);
        bits("OR", x().field(Assembly.OR, 2, 0x105), 0x105, ~0x1FFL);
        unsigned("OR", x().field(Assembly.ADD, 2, 5).from(Assembly.OR, 2, 4), 5, -1);
        bits("OR, seen by XOR", x().field(Assembly.OR, 2, 0x105).field(Assembly.XOR, 2, 0), 0x105, ~0x1FFL);
        bits("OR of one that is known and one that is not", x().field(Assembly.OR, 3, 0x0F).from(Assembly.OR, 2, 3).field(Assembly.XOR, 2, 0),
            0x0F, ~0xFFL);
        bits("XOR", x().field(Assembly.AND, 2, 0xF0).field(Assembly.XOR, 2, 0x0F), 0x0F, ~0xFFL);
        unsigned("XOR", x().field(Assembly.XOR, 2, 0x100), 0x100, 0x1FF);
    }

    private static void shifts() {
        unsigned("LEFT", x().field(Assembly.LEFT, 2, 4), 0, 0xFF0);
        unsigned("LEFT of bounds", x().field(Assembly.ADD, 2, 5).field(Assembly.LEFT, 2, 4), 80, 4160);
        unsigned("LEFT up to the highest bit", x().field(Assembly.ADD, 2, 5).field(Assembly.LEFT, 2, 55), 5L << 55, 260L << 55);
        unsigned("LEFT by 0", x().field(Assembly.ADD, 2, 5).field(Assembly.LEFT, 2, 0), 5, 260);
        bits("LEFT", x().field(Assembly.LEFT, 2, 4), 0, ~0xFF0L);
        unsigned("LEFT out of 64 bits", x().field(Assembly.ADD, 2, 1).field(Assembly.LEFT, 2, 60), 0, 0xF000000000000000L);
        unsigned("LEFT by a register", x().from(Assembly.LEFT, 2, 3), 0, -1);
        unsigned("LEFT by an EXACT register's lowest 6 bits", x().move(5, 66).from(Assembly.LEFT, 2, 5), 0, 1020);
        unsigned("RIGHT", x().field(Assembly.ADD, 2, 16).field(Assembly.RIGHT, 2, 4), 1, 16);
        unsigned("RIGHT of ANY", x().copy(2, 4).field(Assembly.RIGHT, 2, 60), 0, 15);
        bits("RIGHT", x().field(Assembly.AND, 2, 0xF0).field(Assembly.OR, 2, 0x104).field(Assembly.RIGHT, 2, 2), 0x41, ~0x7DL);
        bits("RIGHT SIGNED", x().field(Assembly.AND, 2, 0xF0).field(Assembly.OR, 2, 0x104).field(Assembly.RIGHT_SIGNED, 2, 2), 0x41, ~0x7DL);
        bits("RIGHT SIGNED of a sign that is not known", x().copy(2, 4).field(Assembly.AND, 2, -256).field(Assembly.RIGHT_SIGNED, 2, 4), 0, 0xF);
        signed("RIGHT SIGNED", x().copy(2, 4).field(Assembly.RIGHT_SIGNED, 2, 60), -8, 7);
        signed("RIGHT SIGNED of bounds", x().field(Assembly.ADD, 2, -100).field(Assembly.RIGHT_SIGNED, 2, 2), -25, 38);
        unsigned("RIGHT SIGNED by a register", x().from(Assembly.RIGHT_SIGNED, 2, 3), 0, -1);
    }

    private static void turns() {
        unsigned("SWAP of 2 bytes", x().copy(2, 4).swap(2, 16), 0, 0xFFFF);
        unsigned("SWAP of 4 bytes", x().copy(2, 4).swap(2, 32), 0, 0xFFFFFFFFL);
        unsigned("SWAP of 8 bytes", x().swap(2, 64), 0, -1);
        unsigned("CUT to 2 bytes", x().copy(2, 4).cut(2, 16), 0, 0xFFFF);
        unsigned("CUT to 4 bytes", x().copy(2, 4).cut(2, 32), 0, 0xFFFFFFFFL);
        unsigned("CUT of less", x().field(Assembly.ADD, 2, 5).cut(2, 16), 5, 260);
        unsigned("CUT of just as much", x().field(Assembly.ADD, 2, 0xFFFF - 255).cut(2, 16), 0xFFFF - 255, 0xFFFF);
        unsigned("CUT to 8 bytes", x().field(Assembly.ADD, 2, 5).cut(2, 64), 5, 260);
    }

    private static void narrow() {
        unsigned("narrow MOVE of ANY", x().narrowFrom(Assembly.MOVE, 2, 4), 0, 0xFFFFFFFFL);
        signed("narrow MOVE of ANY", x().narrowFrom(Assembly.MOVE, 2, 4), 0, 0xFFFFFFFFL);
        unsigned("narrow MOVE with the same highest bits", x().field(Assembly.ADD, 2, -300).narrowFrom(Assembly.MOVE, 2, 2),
            0xFFFFFED4L, 0xFFFFFFD3L);
        unsigned("narrow MOVE of less", x().field(Assembly.ADD, 2, 5).narrowFrom(Assembly.MOVE, 2, 2), 5, 260);
        exact("narrow MOVE of FIELD", x().narrowField(Assembly.MOVE, 2, -2), 0xFFFFFFFEL);
        unsigned("narrow ADD", x().narrowField(Assembly.ADD, 2, -100), 0, 0xFFFFFFFFL);
        unsigned("narrow ADD that does not wrap", x().narrowField(Assembly.ADD, 2, -256), 0xFFFFFF00L, 0xFFFFFFFFL);
        unsigned("narrow NEGATE", x().raw(132, 2, 0, 0, 0), 0, 0xFFFFFFFFL);
        unsigned("narrow LEFT", x().narrowField(Assembly.LEFT, 2, 24), 0, 0xFF000000L);
        unsigned("narrow LEFT by the lowest 5 bits", x().move(5, 33).narrowFrom(Assembly.LEFT, 2, 5), 0, 510);
        unsigned("narrow RIGHT", x().copy(2, 4).narrowField(Assembly.RIGHT, 2, 28), 0, 15);
        unsigned("narrow RIGHT SIGNED below 2^31", x().narrowField(Assembly.RIGHT_SIGNED, 2, 4), 0, 15);
        unsigned("narrow RIGHT SIGNED of more", x().copy(2, 4).narrowField(Assembly.RIGHT_SIGNED, 2, 28), 0, 0xFFFFFFFFL);
        unsigned("narrow DIVIDE", x().copy(2, 4).narrowField(Assembly.DIVIDE, 2, 0x10000), 0, 0xFFFF);
        unsigned("narrow REST", x().copy(2, 4).narrowField(Assembly.REST, 2, -1), 0, 0xFFFFFFFEL);
        unsigned("narrow OR", x().narrowField(Assembly.OR, 2, -256), 0xFFFFFF00L, 0xFFFFFFFFL);
    }

    private static final long[] NUMBERS = {0, 1, 2, 31, 32, 63, 64, 255, 0x7FFFFFFFL, 0x80000000L, 0xFFFFFFFFL, 0x100000000L,
        0x123456789ABCDEFL, Long.MAX_VALUE, Long.MIN_VALUE, -1, -2, -64, -0x80000000L, 0xFEDCBA9876543210L};

    /** Of EXACT numbers the guard finds out what a run gives. */
    private static void exactOperations() {
        int[] ks = {0, 1, 2, 3, 4, 5, 6, 7, 9, 10, 11, 12};
        for (int k : ks) {
            for (int isNarrow = 0; isNarrow < 2; isNarrow++) {
                for (long x : NUMBERS) {
                    for (long y : NUMBERS) {
                        exactOperation(k, isNarrow == 1, x, y, isOpen(k, isNarrow == 1, x, y));
                    }
                }
            }
        }
    }

    /** Two operations do not find out all of EXACT numbers. */
    private static boolean isOpen(int k, boolean isNarrow, long x, long y) {
        long first = isNarrow ? x & 0xFFFFFFFFL : x;
        long second = isNarrow ? y & 0xFFFFFFFFL : y;
        boolean isRest = k == 9 && second != 0 && second != 1 && Long.compareUnsigned(first, second) >= 0;
        return isRest || k == 12 && isNarrow && (x & 0x80000000L) != 0;
    }

    private static void exactOperation(int k, boolean isNarrow, long x, long y, boolean isOpen) {
        FilterGuard guard = new FilterGuard();
        Assembly program = a().wide(0, x).wide(2, y);
        program = isNarrow ? program.narrowFrom(k, 0, 2) : program.from(k, 0, 2);
        String what = (isNarrow ? "narrow " : "") + "operation " + k + " of " + x + ", " + y;
        CHECK.due(what, program.exit().program(guard), 0);
        long want = expected(k, isNarrow, x, y);
        CHECK.due(what + " is EXACT", guard.fact(4, 3), isOpen ? 0 : 1);
        CHECK.due(what + " as the guard knows", guard.fact(4, 4), isOpen ? 0 : want);
        CHECK.due(what + " as it runs", guard.run(0), want);
        CHECK.due(what + " as it runs SHORTER", guard.run(2), want);
    }

    private static long expected(int k, boolean isNarrow, long x, long y) {
        if (isNarrow) {
            int a = (int) x;
            int b = (int) y;
            int[] results = {a + b, a - b, a * b, b == 0 ? 0 : Integer.divideUnsigned(a, b), a | b, a & b, a << b, a >>> b, 0,
                b == 0 ? a : Integer.remainderUnsigned(a, b), a ^ b, b, a >> b};
            return results[k] & 0xFFFFFFFFL;
        }
        long[] results = {x + y, x - y, x * y, y == 0 ? 0 : Long.divideUnsigned(x, y), x | y, x & y, x << y, x >>> y, 0,
            y == 0 ? x : Long.remainderUnsigned(x, y), x ^ y, y, x >> y};
        return results[k];
    }

    private static void toldByOrder() {
        unsigned("where ABOVE does not hold", x().ifField(ABOVE, 2, 9, 0).move(5, 0), 0, 255);
        unsigned("ABOVE goes", goneBy(ABOVE, 9), 10, 255);
        unsigned("ABOVE falls", fallenBy(ABOVE, 9), 0, 9);
        unsigned("NOT BELOW goes", goneBy(Assembly.NOT_BELOW, 9), 9, 255);
        unsigned("NOT BELOW falls", fallenBy(Assembly.NOT_BELOW, 9), 0, 8);
        unsigned("BELOW goes", goneBy(BELOW, 9), 0, 8);
        unsigned("BELOW falls", fallenBy(BELOW, 9), 9, 255);
        unsigned("NOT ABOVE goes", goneBy(Assembly.NOT_ABOVE, 9), 0, 9);
        unsigned("NOT ABOVE falls", fallenBy(Assembly.NOT_ABOVE, 9), 10, 255);
        signed("GREATER goes", goneBy(GREATER, 9), 10, 255);
        signed("GREATER falls", fallenBy(GREATER, 9), 0, 9);
        signed("NOT LESS goes", goneBy(Assembly.NOT_LESS, 9), 9, 255);
        signed("NOT LESS falls", fallenBy(Assembly.NOT_LESS, 9), 0, 8);
        signed("LESS goes", goneBy(LESS, 9), 0, 8);
        signed("LESS falls", fallenBy(LESS, 9), 9, 255);
        signed("NOT GREATER goes", goneBy(Assembly.NOT_GREATER, 9), 0, 9);
        signed("NOT GREATER falls", fallenBy(Assembly.NOT_GREATER, 9), 10, 255);
        unsigned("a signed bound of ANY", x().copy(2, 4).ifField(Assembly.NOT_LESS, 2, 5, 2).leave(0), 5, Long.MAX_VALUE);
        signed("a signed bound of ANY", x().copy(2, 4).ifField(LESS, 2, -5, 2).leave(0), Long.MIN_VALUE, -6);
        unsigned("of FROM", x().field(Assembly.ADD, 3, 40).ifFrom(ABOVE, 3, 2, 2).leave(0), 0, 255);
        unsigned("of FROM where it falls", x().field(Assembly.ADD, 3, 40).ifFrom(BELOW, 2, 3, 1).jump(2).leave(0), 40, 255);
        unsigned("signed bounds take no unsigned ones away", x().copy(2, 4).ifField(Assembly.NOT_BELOW, 2, 10, 2).leave(0)
            .ifField(Assembly.NOT_LESS, 2, 5, 2).leave(0), 10, Long.MAX_VALUE);
        unsigned("unsigned bounds below the least long", x().copy(2, 4).ifField(Assembly.NOT_ABOVE, 2, -10, 2).leave(0)
            .ifField(LESS, 2, 0, 2).leave(0), Long.MIN_VALUE, -10);
        ways("above MOST", x().copy(2, 4), ABOVE, -1, false, true);
        ways("below 0", x().copy(2, 4), BELOW, 0, false, true);
        ways("greater than the greatest", x().copy(2, 4), GREATER, Long.MAX_VALUE, false, true);
        ways("less than the least", x().copy(2, 4), LESS, Long.MIN_VALUE, false, true);
    }

    private static Assembly goneBy(int k, int field) {
        return x().ifField(k, 2, field, 2).leave(0);
    }

    private static Assembly fallenBy(int k, int field) {
        return x().ifField(k, 2, field, 1).jump(2).leave(0);
    }

    private static void toldBySame() {
        unsigned("SAME goes", goneBy(Assembly.SAME, 9), 9, 9);
        unsigned("NOT SAME falls", fallenBy(Assembly.NOT_SAME, 9), 9, 9);
        unsigned("SAME falls inside", fallenBy(Assembly.SAME, 9), 0, 255);
        unsigned("SAME falls at the least", fallenBy(Assembly.SAME, 0), 1, 255);
        unsigned("SAME falls at the greatest", fallenBy(Assembly.SAME, 255), 0, 254);
        unsigned("NOT SAME goes at the least", goneBy(Assembly.NOT_SAME, 0), 1, 255);
        signed("NOT SAME of the least long", x().copy(2, 4).wide(5, Long.MIN_VALUE).ifFrom(Assembly.NOT_SAME, 2, 5, 2).leave(0),
            Long.MIN_VALUE + 1, Long.MAX_VALUE);
        unsigned("FROM of NOT SAME", x().move(5, 0).ifFrom(Assembly.NOT_SAME, 5, 2, 2).leave(0), 1, 255);
        unsigned("SAME of two", x().field(Assembly.ADD, 3, 40).ifFrom(Assembly.SAME, 2, 3, 2).leave(0), 40, 255);
        unsigned("SAME tells an unsigned least", sameAs(Assembly.NOT_BELOW, 10), 10, -1);
        unsigned("SAME tells an unsigned greatest", sameAs(Assembly.NOT_ABOVE, -10), 0, -10);
        signed("SAME tells a signed least", sameAs(Assembly.NOT_LESS, -10), -10, Long.MAX_VALUE);
        signed("SAME tells a signed greatest", sameAs(Assembly.NOT_GREATER, 10), Long.MIN_VALUE, 10);
        bits("SAME tells bits", x().field(Assembly.OR, 2, 1).field(Assembly.AND, 4, 0x55).ifFrom(Assembly.SAME, 2, 4, 2).leave(0), 1, ~0x55L);
        ways("bits that differ", x().field(Assembly.OR, 2, 1), Assembly.SAME, 4, false, true);
        ways("the same EXACT", x().move(2, 4), Assembly.SAME, 4, true, false);
        ways("another EXACT", x().move(2, 4), Assembly.NOT_SAME, 5, true, false);
    }

    /** 2 is ANY, and the same as one of which a relation holds. */
    private static Assembly sameAs(int k, int field) {
        return x().load(8, 2, 1, 32).ifField(k, 4, field, 2).leave(0).ifFrom(Assembly.SAME, 2, 4, 2).leave(0);
    }

    private static void toldByMeet() {
        bits("MEET leaves what is known", x().field(Assembly.AND, 2, 0xF0).ifField(MEET, 2, 0x10, 2).leave(0), 0x10, ~0xF0L);
        bits("FROM of MEET keeps what is known", x().field(Assembly.AND, 2, 0xF0).move(5, 0x10).ifFrom(MEET, 5, 2, 2).leave(0), 0x10, ~0xF0L);
        bits("MEET of one bit goes", goneBy(MEET, 4), 4, ~0xFFL);
        bits("MEET of one bit falls", fallenBy(MEET, 4), 0, ~0xFBL);
        bits("MEET of two bits goes", goneBy(MEET, 5), 0, ~0xFFL);
        bits("MEET of two bits falls", fallenBy(MEET, 5), 0, ~0xFAL);
        bits("FROM of MEET", x().move(5, 8).ifFrom(MEET, 5, 2, 2).leave(0), 8, ~0xFFL);
        bits("FROM of NOT MEET", x().move(5, 12).ifFrom(MEET, 5, 2, 1).jump(2).leave(0), 0, ~0xF3L);
        ways("MEET of bits that are 0", x(), MEET, 0x100, false, true);
        ways("MEET of bits that are 1", x().field(Assembly.OR, 2, 1), MEET, 3, true, false);
        ways("MEET of 0", x(), MEET, 0, false, true);
    }

    private static void toldNarrow() {
        unsigned("narrow of less than LOW", x().ifNarrowField(ABOVE, 2, 9, 2).leave(0), 10, 255);
        unsigned("narrow of more tells nothing", x().copy(2, 4).ifNarrowField(ABOVE, 2, 9, 2).leave(0), 0, -1);
        unsigned("narrow with a FIELD below 0 tells nothing", x().ifNarrowField(BELOW, 2, -1, 2).leave(0), 0, 255);
        narrowWays("narrow ABOVE 2^32 - 1", x().copy(2, 4), ABOVE, -1, false, true);
        narrowWays("narrow SAME of the lowest bits", x().wide(2, 0x100000005L), Assembly.SAME, 5, true, false);
        narrowWays("narrow LESS of more always can", x().wide(2, 0x100000005L), LESS, 6, true, true);
        narrowWays("narrow LESS of less", x(), LESS, 256, true, false);
        narrowWays("narrow GREATER of 2^31 always can", x().wide(2, 0x80000000L), GREATER, 6, true, true);
        narrowWays("narrow MEET of the lowest bits", x().wide(2, 0x100000000L), MEET, -1, false, true);
        narrowWays("narrow BELOW with a FIELD below 0", x(), BELOW, -1, true, false);
    }

    private static void narrowWays(String what, Assembly program, int k, int field, boolean goes, boolean falls) {
        PROBE.narrowWays(what, program, k, field, goes, falls);
    }
}
