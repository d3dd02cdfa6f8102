/** Promises 14 to 17 and section G: runs in all modes, what they leave, and what was told. */
public final class RunTest {
    private static final Checker CHECK = new Checker("RunTest");

    private RunTest() {
    }

    public static void main(String[] args) {
        wrongRuns();
        ran();
        registersAndStack();
        relations();
        divisions();
        divisionsByField();
        memory();
        addTo();
        turns();
        distances();
        packetIsLeft();
        context();
        telling();
        tellingTooMany();
        mixing();
        values();
        updateReadsAhead();
        sameOfAllModes();
        CHECK.end();
    }

    private static Assembly a() {
        return new Assembly();
    }

    private static void gives(String what, Assembly program, long want) {
        FilterGuard guard = new FilterGuard();
        CHECK.due(what, program.program(guard), 0);
        for (int mode = 0; mode < 3; mode++) {
            CHECK.due(what + " in mode " + mode, guard.run(mode), want);
        }
    }

    private static void wrongRuns() {
        FilterGuard guard = new FilterGuard();
        CHECK.illegalState("run(0) without a program", () -> guard.run(0));
        CHECK.illegalArgument("run(3) without a program", () -> guard.run(3));
        a().leave(1).program(guard);
        for (int mode : new int[] {-1, 3, 4, Integer.MAX_VALUE, Integer.MIN_VALUE}) {
            CHECK.illegalArgument("run(" + mode + ")", () -> guard.run(mode));
        }
        CHECK.due("runs", guard.count(4), 0);
        CHECK.due("ran without a run", guard.ran(0), -1);
        CHECK.due("run(2)", guard.run(2), 1);
        a().exit().program(guard);
        CHECK.illegalState("run(0) behind a fault", () -> guard.run(0));
        CHECK.due("runs", guard.count(4), 1);
        CHECK.due("ran stays", guard.ran(1), 2);
    }

    private static void ran() {
        FilterGuard guard = new FilterGuard();
        Assembly.packet(guard, 1, 2, 3);
        a().wide(2, 1).jump(2).leave(5).jump(-3).program(guard);
        CHECK.due("run(1)", guard.run(1), 5);
        CHECK.due("instructions, a WIDE is one", guard.ran(0), 5);
        CHECK.due("mode", guard.ran(1), 1);
        CHECK.due("bytes of the packet", guard.ran(2), 3);
        Assembly.packet(guard, 1);
        CHECK.due("bytes that the packet had", guard.ran(2), 3);
        CHECK.due("run(2)", guard.run(2), 5);
        CHECK.due("instructions of SHORTER", guard.ran(0), 5);
        CHECK.due("mode", guard.ran(1), 2);
        CHECK.due("bytes of the packet", guard.ran(2), 1);
        CHECK.due("runs", guard.count(4), 2);
        for (int what : new int[] {-1, 3, 4, Integer.MAX_VALUE, Integer.MIN_VALUE}) {
            CHECK.due("ran(" + what + ")", guard.ran(what), -1);
        }
        a().move(2, 1).ifField(Assembly.SAME, 2, 1, 1).move(0, 7).leave(6).program(guard);
        guard.run(0);
        CHECK.due("instructions with all checks", guard.ran(0), 4);
        guard.run(2);
        CHECK.due("instructions made shorter", guard.ran(0), 3);
    }

    private static void registersAndStack() {
        FilterGuard guard = new FilterGuard();
        Assembly fills = a();
        for (int place = -512; place < 0; place += 8) {
            fills.storeField(8, 10, place, -1);
        }
        CHECK.due("a program that fills the stack", fills.leave(0).program(guard), 0);
        guard.run(1);
        Assembly part = a().storeField(1, 10, -8, 7).storeField(1, 10, -7, 0).storeField(2, 10, -6, 0).storeField(4, 10, -4, 0).load(8, 0, 10, -8).exit();
        CHECK.due("a program that reads it", part.program(guard), 0);
        CHECK.due("bytes of a new stack", guard.run(1), 7);
    }

    private static final long[] NUMBERS = {0, 1, 5, 0x7FFFFFFFL, 0x80000000L, 0xFFFFFFFFL, 0x100000000L, 0x100000005L, Long.MAX_VALUE,
        Long.MIN_VALUE, -1, -5};

    private static boolean holds(int k, long x, long y) {
        int order = Long.compareUnsigned(x, y);
        boolean[] all = {false, x == y, order > 0, order >= 0, (x & y) != 0, x != y, x > y, x >= y, false, false, order < 0, order <= 0, x < y, x <= y};
        return all[k];
    }

    private static void relations() {
        for (int k = 1; k <= 13; k++) {
            if (k == 8 || k == 9) {
                continue;
            }
            FilterGuard wide = new FilterGuard();
            a().load(8, 2, 1, 16).load(8, 3, 1, 24).ifFrom(k, 2, 3, 2).leave(0).leave(1).program(wide);
            FilterGuard narrow = new FilterGuard();
            a().load(8, 2, 1, 16).load(8, 3, 1, 24).ifNarrowFrom(k, 2, 3, 2).leave(0).leave(1).program(narrow);
            for (long x : NUMBERS) {
                for (long y : NUMBERS) {
                    wide.context(16, x);
                    wide.context(24, y);
                    narrow.context(16, x);
                    narrow.context(24, y);
                    boolean isSigned = k == 6 || k == 7 || k == 12 || k == 13;
                    boolean want = isSigned ? holds(k, (int) x, (int) y) : holds(k, x & 0xFFFFFFFFL, y & 0xFFFFFFFFL);
                    CHECK.due("relation " + k + " of " + x + ", " + y, wide.run(0), holds(k, x, y) ? 1 : 0);
                    CHECK.due("narrow relation " + k + " of " + x + ", " + y, narrow.run(2), want ? 1 : 0);
                }
            }
        }
        gives("a relation with FIELD below 0", a().wide(2, -5).ifField(Assembly.SAME, 2, -5, 2).leave(0).leave(1), 1);
        gives("a narrow relation with FIELD below 0", a().wide(2, 0xFFFFFFFBL).ifNarrowField(Assembly.SAME, 2, -5, 2).leave(0).leave(1), 1);
    }

    private static Assembly ofContext(int k, boolean isNarrow) {
        Assembly program = a().load(8, 0, 1, 16).load(8, 2, 1, 24);
        return (isNarrow ? program.narrowFrom(k, 0, 2) : program.from(k, 0, 2)).exit();
    }

    private static void divisions() {
        for (long x : Unsigned.NUMBERS) {
            FilterGuard divides = new FilterGuard();
            FilterGuard rests = new FilterGuard();
            CHECK.due("DIVIDE", ofContext(Assembly.DIVIDE, false).program(divides), 0);
            CHECK.due("REST", ofContext(Assembly.REST, false).program(rests), 0);
            for (long y : Unsigned.NUMBERS) {
                divided("DIVIDE", divides, x, y, Unsigned.quotient(x, y));
                divided("REST", rests, x, y, Unsigned.rest(x, y));
            }
        }
        for (int i = 0; i < 1200; i += 12) {
            FilterGuard divides = new FilterGuard();
            FilterGuard rests = new FilterGuard();
            ofContext(Assembly.DIVIDE, false).program(divides);
            ofContext(Assembly.REST, false).program(rests);
            for (int k = i; k < i + 12; k++) {
                long x = Unsigned.scattered(2 * k);
                long y = Unsigned.scattered(k);
                divided("DIVIDE", divides, x, y, Unsigned.quotient(x, y));
                divided("REST", rests, x, y, Unsigned.rest(x, y));
                divided("DIVIDE", divides, y, x, Unsigned.quotient(y, x));
                divided("REST", rests, y, x, Unsigned.rest(y, x));
            }
        }
        narrowDivisions();
    }

    private static void narrowDivisions() {
        for (long x : Unsigned.NUMBERS) {
            FilterGuard divides = new FilterGuard();
            FilterGuard rests = new FilterGuard();
            ofContext(Assembly.DIVIDE, true).program(divides);
            ofContext(Assembly.REST, true).program(rests);
            for (long y : Unsigned.NUMBERS) {
                divided("narrow DIVIDE", divides, x, y, Unsigned.quotient(x & 0xFFFFFFFFL, y & 0xFFFFFFFFL));
                divided("narrow REST", rests, x, y, Unsigned.rest(x & 0xFFFFFFFFL, y & 0xFFFFFFFFL));
            }
        }
    }

    private static void divided(String what, FilterGuard guard, long x, long y, long want) {
        guard.context(16, x);
        guard.context(24, y);
        for (int mode = 0; mode < 3; mode++) {
            CHECK.due(what + " of " + x + ", " + y + " in mode " + mode, guard.run(mode), want);
        }
    }

    /** A FIELD below 0 is a long whose highest bit is 1. */
    private static void divisionsByField() {
        for (int field : new int[] {-1, -2, -3, -256, Integer.MIN_VALUE, Integer.MIN_VALUE + 1, 1, 2, 3, 10, Integer.MAX_VALUE}) {
            FilterGuard divides = new FilterGuard();
            FilterGuard rests = new FilterGuard();
            a().load(8, 0, 1, 16).field(Assembly.DIVIDE, 0, field).exit().program(divides);
            a().load(8, 0, 1, 16).field(Assembly.REST, 0, field).exit().program(rests);
            for (long x : Unsigned.NUMBERS) {
                divided("DIVIDE by FIELD", divides, x, field, Unsigned.quotient(x, field));
                divided("REST by FIELD", rests, x, field, Unsigned.rest(x, field));
            }
        }
    }

    private static void memory() {
        gives("8 bytes", a().wide(2, 0x8877665544332211L).store(8, 10, -8, 2).load(8, 0, 10, -8).exit(), 0x8877665544332211L);
        gives("4 bytes", a().wide(2, 0x8877665544332211L).store(8, 10, -8, 2).load(4, 0, 10, -4).exit(), 0x88776655L);
        gives("2 bytes", a().wide(2, 0x8877665544332211L).store(8, 10, -8, 2).load(2, 0, 10, -2).exit(), 0x8877L);
        gives("1 byte", a().wide(2, 0x8877665544332211L).store(8, 10, -8, 2).load(1, 0, 10, -1).exit(), 0x88L);
        gives("the lowest first", a().wide(2, 0x8877665544332211L).store(8, 10, -8, 2).load(1, 0, 10, -8).exit(), 0x11L);
        gives("a store of the lowest 4", a().wide(2, 0x8877665544332211L).storeField(8, 10, -8, 0).store(4, 10, -8, 2).load(8, 0, 10, -8).exit(),
            0x44332211L);
        gives("a store of the lowest 2", a().wide(2, 0x8877665544332211L).storeField(8, 10, -8, -1).store(2, 10, -6, 2).load(8, 0, 10, -8).exit(),
            0xFFFFFFFF2211FFFFL);
        gives("FIELD in 8 bytes has its sign", a().storeField(8, 10, -8, -3).load(8, 0, 10, -8).exit(), -3);
        gives("FIELD in 4 bytes", a().storeField(4, 10, -8, -3).load(4, 0, 10, -8).exit(), 0xFFFFFFFDL);
        gives("FIELD in 1 byte", a().storeField(1, 10, -8, 0x1234).load(1, 0, 10, -8).exit(), 0x34);
        gives("the lowest place", a().storeField(8, 10, -512, 9).load(8, 0, 10, -512).exit(), 9);
        gives("a saved pointer", a().store(8, 10, -16, 10).load(8, 2, 10, -16).storeField(8, 2, -8, 6).load(8, 0, 10, -8).exit(), 6);
        gives("a WIDE number", a().wide(0, 0xFEDCBA9876543210L).exit(), 0xFEDCBA9876543210L);
        gives("a WIDE number of a FIELD below 0", a().wide(0, 0x00000001FFFFFFFFL).exit(), 0x1FFFFFFFFL);
    }

    private static void addTo() {
        gives("8 bytes", a().move(2, -1).storeField(8, 10, -8, 5).addTo(8, 10, -8, 2).load(8, 0, 10, -8).exit(), 4);
        gives("4 bytes wrap", a().move(2, 6).storeField(8, 10, -8, -5).addTo(4, 10, -8, 2).load(8, 0, 10, -8).exit(), 0xFFFFFFFF00000001L);
        gives("4 higher bytes", a().move(2, 1).storeField(8, 10, -8, 5).addTo(4, 10, -4, 2).load(8, 0, 10, -8).exit(), 0x100000005L);
    }

    private static void turns() {
        FilterGuard guard = new FilterGuard();
        guard.context(16, 0x8877665544332211L);
        long[][] wants = {{212, 16, 0x2211L}, {212, 32, 0x44332211L}, {212, 64, 0x8877665544332211L}, {220, 16, 0x1122L}, {220, 32, 0x11223344L},
            {220, 64, 0x1122334455667788L}};
        for (long[] w : wants) {
            a().load(8, 0, 1, 16).raw((int) w[0], 0, 0, 0, (int) w[1]).exit().program(guard);
            for (int mode = 0; mode < 3; mode++) {
                CHECK.due("OP " + w[0] + " of " + w[1], guard.run(mode), w[2]);
            }
            a().wide(0, 0x8877665544332211L).raw((int) w[0], 0, 0, 0, (int) w[1]).exit().program(guard);
            CHECK.due("OP " + w[0] + " of an EXACT number", guard.run(2), w[2]);
            CHECK.due("as the guard knows it", guard.fact(2, 4), w[2]);
        }
        gives("NEGATE", a().move(0, 5).negate(0).exit(), -5);
        gives("narrow NEGATE", a().move(0, 5).raw(132, 0, 0, 0, 0).exit(), 0xFFFFFFFBL);
        for (int k : new int[] {Assembly.LEFT, Assembly.RIGHT, Assembly.RIGHT_SIGNED}) {
            a().load(8, 0, 1, 16).load(8, 2, 1, 24).narrowFrom(k, 0, 2).exit().program(guard);
            guard.context(16, 0x1F2345678L + 0x80000000L);
            guard.context(24, 36);
            int x = (int) (0x1F2345678L + 0x80000000L);
            int want = k == Assembly.LEFT ? x << 4 : k == Assembly.RIGHT ? x >>> 4 : x >> 4;
            CHECK.due("narrow shift " + k, guard.run(0), want & 0xFFFFFFFFL);
        }
    }

    private static void distances() {
        FilterGuard guard = new FilterGuard();
        Assembly program = a().load(8, 0, 1, 8).load(8, 2, 1, 0).field(Assembly.ADD, 2, -3).from(Assembly.SUBTRACT, 0, 2).exit();
        CHECK.due("END - PACKET", program.program(guard), 0);
        Assembly.packet(guard, 1, 2, 3, 4, 5);
        CHECK.due("the bytes between", guard.run(0), 8);
        Assembly.packet(guard);
        CHECK.due("the bytes between", guard.run(1), 3);
        Assembly ahead = a().load(8, 3, 1, 8).load(8, 2, 1, 0).field(Assembly.ADD, 2, -65535).ifFrom(Assembly.BELOW, 2, 3, 2).leave(0).leave(1);
        CHECK.due("a pointer ahead of the packet", ahead.program(guard), 0);
        for (int mode = 0; mode < 3; mode++) {
            CHECK.due("it is below END", guard.run(mode), 1);
        }
        Assembly behind = a().load(8, 3, 1, 8).load(8, 2, 1, 0).field(Assembly.ADD, 2, 65535).ifFrom(Assembly.BELOW, 2, 3, 2).leave(0).leave(1);
        CHECK.due("a pointer behind the packet", behind.program(guard), 0);
        CHECK.due("it is not below END", guard.run(0), 0);
        Assembly same = a().load(8, 3, 1, 8).load(8, 2, 1, 0).ifFrom(Assembly.NOT_BELOW, 2, 3, 2).leave(0).leave(1);
        CHECK.due("a pointer to the packet", same.program(guard), 0);
        CHECK.due("it is not below the END of nothing", guard.run(0), 1);
        Assembly.packet(guard, 1);
        CHECK.due("it is below the END of something", guard.run(0), 0);
    }

    private static Assembly doubling() {
        return a().load(8, 2, 1, 0).load(8, 3, 1, 8).copy(4, 2).field(Assembly.ADD, 4, 2).ifFrom(Assembly.ABOVE, 4, 3, 5)
            .load(1, 5, 2, 1).field(Assembly.MULTIPLY, 5, 2).store(1, 2, 1, 5).copy(0, 5).exit().leave(-1);
    }

    private static void packetIsLeft() {
        FilterGuard guard = new FilterGuard();
        CHECK.due("a program that stores", doubling().program(guard), 0);
        Assembly.packet(guard, 1, 100, 3);
        CHECK.due("run", guard.run(0), 200);
        CHECK.due("the packet", guard.packetAt(1), 200);
        CHECK.due("run on what is left", guard.run(1), 400);
        CHECK.due("the packet", guard.packetAt(1), 144);
        CHECK.due("its other bytes", guard.packetAt(0) + guard.packetAt(2), 4);
        Assembly.packet(guard, 9);
        CHECK.due("too short", guard.run(2), -1);
        CHECK.due("the packet", guard.packetAt(0), 9);
    }

    private static void context() {
        FilterGuard guard = new FilterGuard();
        CHECK.due("a program", a().load(8, 0, 1, 40).exit().program(guard), 0);
        guard.context(40, 123);
        CHECK.due("CONTEXT", guard.run(0), 123);
        CHECK.due("CONTEXT stays", guard.run(1), 123);
        guard.context(40, -9);
        CHECK.due("CONTEXT told anew", guard.run(2), -9);
    }

    private static void telling() {
        FilterGuard guard = new FilterGuard();
        a().load(8, 6, 1, 16).copy(1, 6).call(4).copy(7, 0).negate(6).copy(1, 6).call(4).copy(0, 7).exit().program(guard);
        guard.context(16, 5);
        CHECK.due("TELL gives 0", guard.run(0), 0);
        guard.context(16, Long.MIN_VALUE + 1);
        guard.run(2);
        CHECK.due("numbers told", guard.count(2), 4);
        long[] want = {5, -5, Long.MIN_VALUE + 1, Long.MAX_VALUE};
        for (int k = 0; k < 4; k++) {
            CHECK.due("told(" + k + ")", guard.told(k), want[k]);
        }
        for (int k : new int[] {-1, 4, 1000, Integer.MAX_VALUE, Integer.MIN_VALUE}) {
            CHECK.outOfBounds("told(" + k + ")", () -> guard.told(k));
        }
        a().leave(0).program(guard);
        guard.run(0);
        CHECK.due("what was told stays", guard.told(3), Long.MAX_VALUE);
    }

    private static void tellingTooMany() {
        FilterGuard guard = new FilterGuard();
        a().move(6, 0).copy(1, 6).call(4).field(Assembly.ADD, 6, 1).ifField(Assembly.BELOW, 6, 150, -4).copy(0, 6).exit().program(guard);
        for (int i = 0; i < 7; i++) {
            CHECK.due("run " + i, guard.run(i % 3), 150);
        }
        CHECK.due("1000 are kept", guard.count(2), 1000);
        CHECK.due("the last of them", guard.told(999), 99);
        CHECK.outOfBounds("told(1000)", () -> guard.told(1000));
    }

    private static void mixing() {
        gives("MIX of nothing", a().copy(1, 10).move(2, 0).call(6).exit(), 1);
        gives("MIX of two bytes", a().storeField(8, 10, -8, 0x0201).copy(1, 10).field(Assembly.ADD, 1, -8).move(2, 2).call(6).exit(), 31 * (31 + 1) + 2);
        long mixed = 1;
        for (int i = 0; i < 16; i++) {
            mixed = 31 * mixed + 255 & 0xFFFFFFFFL;
        }
        gives("MIX of bytes above 127", a().storeField(8, 10, -8, -1).storeField(8, 10, -16, -1).copy(1, 10).field(Assembly.ADD, 1, -16)
            .move(2, 16).call(6).exit(), mixed);
        FilterGuard guard = new FilterGuard();
        a().load(8, 6, 1, 0).load(8, 7, 1, 8).copy(8, 6).field(Assembly.ADD, 8, 3).ifFrom(Assembly.ABOVE, 8, 7, 6).load(1, 2, 1, 16)
            .field(Assembly.AND, 2, 1).field(Assembly.ADD, 2, 2).copy(1, 6).call(6).exit().leave(0).program(guard);
        Assembly.packet(guard, 7, 8, 9);
        CHECK.due("MIX of two of the packet's bytes", guard.run(0), 31 * (31 + 7) + 8);
        guard.context(16, 1);
        CHECK.due("MIX of three", guard.run(2), 31 * (31 * (31 + 7) + 8) + 9);
    }

    private static void values() {
        FilterGuard guard = new FilterGuard();
        guard.map(0, 4, 16, 3);
        Assembly program = a().load(4, 6, 1, 16).store(4, 10, -4, 6).mapTo(1, 0).copy(2, 10).field(Assembly.ADD, 2, -4).call(1)
            .ifField(Assembly.NOT_SAME, 0, 0, 2).leave(-1).move(3, 7).addTo(8, 0, 8, 3).storeField(2, 0, 2, 0x1234).load(8, 0, 0, 8).exit();
        CHECK.due("a program that counts", program.program(guard), 0);
        guard.context(16, 2);
        CHECK.due("first", guard.run(0), 7);
        CHECK.due("second", guard.run(1), 14);
        CHECK.due("third", guard.run(2), 21);
        CHECK.due("the sum", guard.entry(0, 2, 208), 21);
        CHECK.due("a store", guard.entry(0, 2, 202), 0x34);
        CHECK.due("a store", guard.entry(0, 2, 203), 0x12);
        CHECK.due("another entry", guard.entry(0, 1, 208), 0);
        guard.context(16, 3);
        CHECK.due("no such entry", guard.run(0), -1);
        guard.context(16, -1);
        CHECK.due("no such entry", guard.run(1), -1);
    }

    /** The value that an UPDATE reads may lie in the map itself. */
    private static void updateReadsAhead() {
        FilterGuard guard = new FilterGuard();
        guard.map(1, 1, 4, 2);
        guard.feed(0x05010203, 0x04000000, 0, 0, 0);
        guard.put(0);
        Assembly program = a().storeField(8, 10, -8, 5).storeField(8, 10, -16, 6).mapTo(1, 0).copy(2, 10).field(Assembly.ADD, 2, -8).call(1)
            .ifField(Assembly.NOT_SAME, 0, 0, 2).leave(-7).copy(3, 0).mapTo(1, 0).copy(2, 10).field(Assembly.ADD, 2, -16).call(2).exit();
        CHECK.due("a program that copies a value", program.program(guard), 0);
        CHECK.due("it copies", guard.run(0), 0);
        for (int i = 0; i < 4; i++) {
            CHECK.due("byte " + i, guard.entry(0, 1, 200 + i), i + 1);
        }
    }

    private static void sameOfAllModes() {
        long[] answers = new long[3];
        long[] left = new long[3];
        for (int mode = 0; mode < 3; mode++) {
            FilterGuard guard = new FilterGuard();
            guard.map(1, 2, 2, 4);
            guard.clock(50);
            CHECK.due("a program of many helpers", many().program(guard), 0);
            for (int round = 0; round < 6; round++) {
                Assembly.packet(guard, round % 4, 3, 4 * round);
                answers[mode] = answers[mode] * 31 + guard.run(mode);
                left[mode] = left[mode] * 31 + guard.packetAt(2);
                CHECK.due("the clock is in the packet", guard.packetAt(2), 50 + round);
            }
            CHECK.due("numbers told", guard.count(2), 2);
            CHECK.due("what was told of key 0", guard.told(0), 50);
            CHECK.due("what was told of key 1", guard.told(1), 51);
            CHECK.due("entries left", guard.count(10), 2);
            for (int k = 0; k < guard.count(2); k++) {
                left[mode] = left[mode] * 31 + guard.told(k);
            }
            for (int i = 0; i < 4; i++) {
                left[mode] = left[mode] * 31 + guard.entry(0, i, 0) * 1000 + guard.entry(0, i, 200);
            }
        }
        for (int mode = 1; mode < 3; mode++) {
            CHECK.due("answers of mode " + mode, answers[mode], answers[0]);
            CHECK.due("what mode " + mode + " leaves", left[mode], left[0]);
        }
    }

    /**
     * The first byte of the packet is a key, the third one becomes what the clock gives: an entry that
     * is there is told and deleted, one that is not gets the clock's number.
     */
    private static Assembly many() {
        return a().load(8, 6, 1, 0).load(8, 7, 1, 8).copy(8, 6).field(Assembly.ADD, 8, 3).ifFrom(Assembly.ABOVE, 8, 7, 27)
            .load(1, 9, 6, 0).store(8, 10, -8, 9).call(5).store(1, 6, 2, 0).store(8, 10, -16, 0)
            .mapTo(1, 0).copy(2, 10).field(Assembly.ADD, 2, -8).call(1).ifField(Assembly.SAME, 0, 0, 8)
            .load(2, 1, 0, 0).call(4).mapTo(1, 0).copy(2, 10).field(Assembly.ADD, 2, -8).call(3).exit()
            .mapTo(1, 0).copy(2, 10).field(Assembly.ADD, 2, -8).copy(3, 10).field(Assembly.ADD, 3, -16).call(2).exit()
            .leave(-1);
    }
}
