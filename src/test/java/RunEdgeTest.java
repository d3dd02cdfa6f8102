import java.math.BigInteger;

/** Promises 10 to 17, sections F and G: the edges of runs and of the helpers, in all modes. */
public final class RunEdgeTest {
    private static final Checker CHECK = new Checker("RunEdgeTest");
    private static final int ADD = Assembly.ADD;
    private static final long LOW = 0xFFFFFFFFL;

    private RunEdgeTest() {
    }

    public static void main(String[] args) {
        findsOfArray();
        findsOfTable();
        updatesOfArray();
        updatesOfTable();
        deletes();
        keysAreReadAhead();
        keysAndValuesOfOtherLengths();
        lastBytesOfValues();
        tellings();
        tellGivesZero();
        mixesOfNothing();
        mixesOfMost();
        mixesWrap();
        operations();
        loadsAndStores();
        storesBehindCuts();
        addTo();
        sumsOfPointers();
        maybes();
        ends();
        endsCompared();
        longestPacket();
        wholeStack();
        shortestMoves();
        CHECK.end();
    }

    private static Assembly a() {
        return new Assembly();
    }

    private static Assembly again(Assembly program) {
        return both(a(), program);
    }

    private static Assembly both(Assembly first, Assembly second) {
        for (int i = 0; i < second.size(); i++) {
            first.raw(second.word(i));
        }
        return first;
    }

    /** The same answer in all modes, by as many instructions with all checks as without, and by no more of the SHORTER program. */
    private static void answers(String what, FilterGuard guard, long want) {
        int[] done = new int[3];
        for (int mode = 0; mode < 3; mode++) {
            CHECK.due(what + ", in mode " + mode, guard.run(mode), want);
            done[mode] = guard.ran(0);
        }
        CHECK.due(what + ", instructions with all checks", done[0], done[1]);
        CHECK.due(what + ", instructions of the SHORTER one", done[2] <= done[1], true);
    }

    private static void put(FilterGuard guard, int map, int... bytes) {
        byte[] all = new byte[bytes.length];
        for (int i = 0; i < bytes.length; i++) {
            all[i] = (byte) bytes[i];
        }
        Assembly.feed(guard, all);
        CHECK.due("put", guard.put(map), 0);
    }

    /** 16 bytes of a key are CONTEXT 16 .. 31, the first byte of a value is CONTEXT 32: helper 1 answers a value's first byte, or -7. */
    private static Assembly helped(int map, int helper) {
        Assembly program = a().load(8, 6, 1, 16).store(8, 10, -16, 6).load(8, 6, 1, 24).store(8, 10, -8, 6).load(8, 6, 1, 32).store(8, 10, -24, 6)
            .mapTo(1, map).copy(2, 10).field(ADD, 2, -16).copy(3, 10).field(ADD, 3, -24).call(helper);
        return helper == 1 ? program.ifField(Assembly.NOT_SAME, 0, 0, 2).leave(-7).load(1, 0, 0, 0).exit() : program.exit();
    }

    private static long helps(FilterGuard guard, int mode, long key, long value) {
        guard.context(16, key);
        guard.context(32, value);
        return guard.run(mode);
    }

    private static void findsOfArray() {
        FilterGuard guard = new FilterGuard();
        guard.map(0, 4, 8, 1);
        guard.map(0, 4, 1, 64);
        put(guard, 0, 0, 0, 0, 0, 50, 0, 0, 0, 0, 0, 0, 0);
        put(guard, 1, 0, 0, 0, 0, 60);
        put(guard, 1, 63, 0, 0, 0, 61);
        for (int map = 0; map < 2; map++) {
            CHECK.due("FIND", helped(map, 1).program(guard), 0);
            for (int mode = 0; mode < 3; mode++) {
                CHECK.due("the first entry", helps(guard, mode, 0, 0), map == 0 ? 50 : 60);
                CHECK.due("entry 1", helps(guard, mode, 1, 0), map == 0 ? -7 : 0);
                CHECK.due("entry 63", helps(guard, mode, 63, 0), map == 0 ? -7 : 61);
                CHECK.due("entry 64", helps(guard, mode, 64, 0), -7);
                CHECK.due("a key with a higher byte", helps(guard, mode, 0x100, 0), -7);
                CHECK.due("a key of 2^31", helps(guard, mode, 0x80000000L, 0), -7);
                CHECK.due("a key of all ones", helps(guard, mode, LOW, 0), -7);
                CHECK.due("a key is four bytes", helps(guard, mode, 0x100000000L, 0), map == 0 ? 50 : 60);
            }
        }
    }

    private static void findsOfTable() {
        FilterGuard guard = new FilterGuard();
        guard.map(1, 16, 1, 2);
        guard.map(1, 1, 1, 2);
        put(guard, 0, 1, 0, 0, 0, 0, 0, 0, 0, 0, 0, 0, 0, 0, 0, 0, 0, 70);
        put(guard, 1, 255, 71);
        CHECK.due("FIND of 16 bytes", helped(0, 1).program(guard), 0);
        for (int mode = 0; mode < 3; mode++) {
            guard.context(24, 0);
            CHECK.due("the key", helps(guard, mode, 1, 0), 70);
            CHECK.due("another first byte", helps(guard, mode, 0, 0), -7);
            CHECK.due("another eighth byte", helps(guard, mode, 0x0100000000000001L, 0), -7);
            guard.context(24, 1L << 56);
            CHECK.due("another last byte", helps(guard, mode, 1, 0), -7);
        }
        CHECK.due("FIND of 1 byte", helped(1, 1).program(guard), 0);
        for (int mode = 0; mode < 3; mode++) {
            CHECK.due("a key above 127", helps(guard, mode, 255, 0), 71);
            CHECK.due("a key is one byte", helps(guard, mode, 0x1FF, 0), 71);
            CHECK.due("the key that a free place would have", helps(guard, mode, 0, 0), -7);
        }
    }

    private static void updatesOfArray() {
        for (int mode = 0; mode < 3; mode++) {
            FilterGuard guard = new FilterGuard();
            guard.map(0, 4, 1, 3);
            CHECK.due("UPDATE", helped(0, 2).program(guard), 0);
            CHECK.due("entry 0", helps(guard, mode, 0, 90), 0);
            CHECK.due("entry 2", helps(guard, mode, 2, 92), 0);
            for (long key : new long[] {3, 4, 0x100, 0x80000000L, LOW}) {
                CHECK.due("entry " + key, helps(guard, mode, key, 93), -1);
            }
            CHECK.due("value 0", guard.entry(0, 0, 200), 90);
            CHECK.due("value 1", guard.entry(0, 1, 200), 0);
            CHECK.due("value 2", guard.entry(0, 2, 200), 92);
            CHECK.due("entries", guard.count(10), 3);
        }
    }

    private static void updatesOfTable() {
        for (int mode = 0; mode < 3; mode++) {
            FilterGuard guard = new FilterGuard();
            guard.map(1, 1, 1, 3);
            CHECK.due("DELETE", helped(0, 3).program(guard), 0);
            CHECK.due("DELETE of an empty one", helps(guard, mode, 1, 0), -1);
            CHECK.due("UPDATE", helped(0, 2).program(guard), 0);
            for (int i = 1; i <= 3; i++) {
                CHECK.due("key " + i, helps(guard, mode, i, 10 * i), 0);
                CHECK.due("entries", guard.count(10), i);
                CHECK.due("the least free place", guard.entry(0, i - 1, 100), i);
            }
            CHECK.due("a fourth key", helps(guard, mode, 4, 40), -1);
            for (int i = 1; i <= 3; i++) {
                CHECK.due("key " + i + " stays", guard.entry(0, i - 1, 100), i);
                CHECK.due("value " + i + " stays", guard.entry(0, i - 1, 200), 10 * i);
            }
            CHECK.due("a key of a full one", helps(guard, mode, 3, 33), 0);
            CHECK.due("its value", guard.entry(0, 2, 200), 33);
            CHECK.due("DELETE", helped(0, 3).program(guard), 0);
            CHECK.due("DELETE of key 3", helps(guard, mode, 3, 0), 0);
            CHECK.due("DELETE of key 1", helps(guard, mode, 1, 0), 0);
            CHECK.due("DELETE of key 1 again", helps(guard, mode, 1, 0), -1);
            CHECK.due("UPDATE", helped(0, 2).program(guard), 0);
            CHECK.due("a key behind", helps(guard, mode, 5, 50), 0);
            CHECK.due("it has the least free place", guard.entry(0, 0, 100), 5);
            CHECK.due("another", helps(guard, mode, 6, 60), 0);
            CHECK.due("it has the last one", guard.entry(0, 2, 100), 6);
            CHECK.due("no more", helps(guard, mode, 7, 70), -1);
        }
    }

    private static void deletes() {
        for (int mode = 0; mode < 3; mode++) {
            FilterGuard guard = new FilterGuard();
            guard.map(0, 4, 1, 2);
            put(guard, 0, 1, 0, 0, 0, 5);
            CHECK.due("DELETE", helped(0, 3).program(guard), 0);
            CHECK.due("of an ARRAY's entry", helps(guard, mode, 1, 0), -1);
            CHECK.due("of none", helps(guard, mode, 2, 0), -1);
            CHECK.due("it is there", guard.entry(0, 1, 0), 1);
            CHECK.due("with its value", guard.entry(0, 1, 200), 5);
        }
    }

    /** The key lies in the value's bytes of the place that the UPDATE fills. */
    private static void keysAreReadAhead() {
        for (int mode = 0; mode < 3; mode++) {
            FilterGuard guard = new FilterGuard();
            guard.map(1, 1, 1, 1);
            put(guard, 0, 3, 8);
            Assembly key = a().storeField(8, 10, -8, 3).storeField(8, 10, -16, 9).mapTo(1, 0).copy(2, 10).field(ADD, 2, -8).call(1)
                .ifField(Assembly.NOT_SAME, 0, 0, 2).leave(-7).copy(6, 0);
            Assembly delete = a().mapTo(1, 0).copy(2, 10).field(ADD, 2, -8).call(3);
            Assembly update = a().mapTo(1, 0).copy(2, 6).copy(3, 10).field(ADD, 3, -16).call(2).exit();
            CHECK.due("a key that is a value", both(both(key, delete), update).program(guard), 0);
            CHECK.due("UPDATE", guard.run(mode), 0);
            CHECK.due("the key is what was there ahead of it", guard.entry(0, 0, 100), 8);
            CHECK.due("the value", guard.entry(0, 0, 200), 9);
        }
    }

    /** Of a key and a value no more bytes are read than they have: the last ones of the stack, or of the packet. */
    private static void keysAndValuesOfOtherLengths() {
        for (int[] lengths : new int[][] {{16, 1}, {1, 16}, {3, 7}, {7, 3}}) {
            for (int atEnd = 2; atEnd <= 3; atEnd++) {
                FilterGuard guard = new FilterGuard();
                guard.map(1, lengths[0], lengths[1], 2);
                Assembly stack = a();
                for (int place = -24; place < 0; place++) {
                    stack.storeField(1, 10, place, -place);
                }
                int length = lengths[atEnd - 2];
                int other = lengths[3 - atEnd];
                Assembly call = a().mapTo(1, 0).copy(5 - atEnd, 10).field(ADD, 5 - atEnd, -24).copy(atEnd, 10).field(ADD, atEnd, -length).call(2).exit();
                CHECK.due("a program", both(again(stack), call).program(guard), 0);
                answers("UPDATE by the last bytes of the stack", guard, 0);
                CHECK.due("one entry", guard.count(10), 1);
                for (int i = 0; i < length; i++) {
                    CHECK.due("a byte of the last", guard.entry(0, 0, (atEnd - 1) * 100 + i), length - i);
                }
                for (int i = 0; i < other; i++) {
                    CHECK.due("a byte of the first", guard.entry(0, 0, (4 - atEnd) * 100 + i), 24 - i);
                }
                Assembly packet = a().load(8, 6, 1, 0).load(8, 7, 1, 8).copy(8, 6).field(ADD, 8, length).ifFrom(Assembly.NOT_ABOVE, 8, 7, 2).leave(-9);
                Assembly other6 = a().mapTo(1, 0).copy(5 - atEnd, 10).field(ADD, 5 - atEnd, -24).copy(atEnd, 6).call(2).exit();
                CHECK.due("a program", both(both(packet, stack), other6).program(guard), 0);
                Assembly.feed(guard, new byte[length]);
                CHECK.due("packet", guard.packet(length), true);
                answers("UPDATE by the last bytes of the packet", guard, 0);
            }
        }
    }

    private static void lastBytesOfValues() {
        for (int mode = 0; mode < 3; mode++) {
            FilterGuard guard = new FilterGuard();
            guard.map(0, 4, 64, 64);
            Assembly program = a().load(8, 6, 1, 16).store(8, 10, -8, 6).mapTo(1, 0).copy(2, 10).field(ADD, 2, -8).call(1)
                .ifField(Assembly.NOT_SAME, 0, 0, 2).leave(-7).storeField(1, 0, 63, 0xAB).storeField(1, 0, 0, 0xCD).field(ADD, 0, 70)
                .load(8, 0, 0, -14).exit();
            CHECK.due("a program", program.program(guard), 0);
            guard.context(16, 63);
            CHECK.due("the last eight bytes of the last entry", guard.run(mode), 0xABL << 56);
            guard.context(16, 0);
            CHECK.due("the last eight bytes of the first entry", guard.run(mode), 0xABL << 56);
            for (int i = 0; i < 64; i++) {
                boolean isTouched = i == 0 || i == 63;
                CHECK.due("the first byte of entry " + i, guard.entry(0, i, 200), isTouched ? 0xCD : 0);
                CHECK.due("the last byte of entry " + i, guard.entry(0, i, 263), isTouched ? 0xAB : 0);
            }
        }
    }

    /** Tells 0 .. 110: nine runs are 999 numbers, and what is behind the thousandth is not kept. */
    private static void tellings() {
        FilterGuard guard = new FilterGuard();
        Assembly many = a().move(6, 0).copy(1, 6).call(4).field(ADD, 6, 1).ifField(Assembly.BELOW, 6, 111, -4).exit();
        CHECK.due("a program that tells", many.program(guard), 0);
        for (int i = 1; i <= 9; i++) {
            CHECK.due("run", guard.run(i % 3), 0);
            CHECK.due("numbers told", guard.count(2), 111 * i);
        }
        CHECK.due("number 998", guard.told(998), 110);
        CHECK.outOfBounds("number 999", () -> guard.told(999));
        Assembly one = a().load(8, 1, 1, 16).call(4).exit();
        CHECK.due("a program that tells one", one.program(guard), 0);
        for (int i = 0; i < 3; i++) {
            guard.context(16, 5000 + i);
            CHECK.due("TELL gives 0", guard.run(i), 0);
            CHECK.due("numbers told", guard.count(2), 1000);
            CHECK.due("number 999", guard.told(999), 5000);
            CHECK.outOfBounds("number 1000", () -> guard.told(1000));
        }
        CHECK.due("number 0", guard.told(0), 0);
        CHECK.due("number 110", guard.told(110), 110);
        CHECK.due("number 111", guard.told(111), 0);
    }

    private static void tellGivesZero() {
        FilterGuard guard = new FilterGuard();
        CHECK.due("a program", a().load(8, 0, 1, 16).load(8, 1, 1, 24).call(4).exit().program(guard), 0);
        guard.context(16, 77);
        guard.context(24, 88);
        for (int mode = 0; mode < 3; mode++) {
            CHECK.due("TELL gives 0", guard.run(mode), 0);
            CHECK.due("what was told", guard.told(mode), 88);
        }
    }

    /** MIX of no bytes reads none, wherever its pointer is. */
    private static void mixesOfNothing() {
        for (int size : new int[] {0, 1, 2000}) {
            FilterGuard guard = new FilterGuard();
            Assembly.feed(guard, new byte[size]);
            guard.packet(size);
            Assembly moved = a().load(2, 6, 1, 16).load(8, 1, 1, 0).from(ADD, 1, 6).move(2, 0).call(6).field(ADD, 0, 4).exit();
            CHECK.due("0 bytes at a place that is not known", moved.program(guard), 0);
            for (long more : new long[] {0, 1, 1999, 2000, 2001, 65535}) {
                guard.context(16, more);
                for (int mode = 0; mode < 3; mode++) {
                    CHECK.due("MIX of nothing at " + more + " of " + size, guard.run(mode), 5);
                    CHECK.due("instructions", guard.ran(0), 7);
                }
            }
        }
        for (int place : new int[] {0, -1, -512}) {
            FilterGuard guard = new FilterGuard();
            CHECK.due("0 bytes of STACK", a().copy(1, 10).field(ADD, 1, place).move(2, 0).call(6).field(ADD, 0, 4).exit().program(guard), 0);
            answers("MIX of nothing at " + place, guard, 5);
        }
        FilterGuard guard = new FilterGuard();
        guard.map(0, 4, 8, 1);
        Assembly end = a().storeField(8, 10, -8, 0).mapTo(1, 0).copy(2, 10).field(ADD, 2, -8).call(1).ifField(Assembly.NOT_SAME, 0, 0, 2).leave(-7)
            .copy(1, 0).field(ADD, 1, 8).move(2, 0).call(6).field(ADD, 0, 4).exit();
        CHECK.due("0 bytes at a value's end", end.program(guard), 0);
        answers("MIX of nothing of a value", guard, 5);
    }

    private static long mixed(int... bytes) {
        long h = 1;
        for (int one : bytes) {
            h = 31 * h + one & LOW;
        }
        return h;
    }

    private static void mixesOfMost() {
        for (int bytes = 511; bytes <= 512; bytes++) {
            FilterGuard guard = new FilterGuard();
            byte[] row = new byte[600];
            int[] first = new int[bytes];
            for (int i = 0; i < 600; i++) {
                row[i] = (byte) (255 - i);
                if (i < bytes) {
                    first[i] = row[i] & 255;
                }
            }
            Assembly program = a().load(8, 6, 1, 0).load(8, 7, 1, 8).copy(8, 6).field(ADD, 8, bytes).ifFrom(Assembly.ABOVE, 8, 7, 6)
                .copy(9, 1).copy(1, 6).load(2, 2, 9, 16).ifField(Assembly.ABOVE, 2, bytes, 2).call(6).exit().leave(-1);
            CHECK.due("a program of " + bytes, program.program(guard), 0);
            Assembly.feed(guard, row);
            guard.packet(bytes);
            guard.context(16, bytes);
            answers("MIX of " + bytes, guard, mixed(first));
            guard.context(16, bytes + 1);
            CHECK.due("MIX of more is not gone", guard.run(0), -1);
            Assembly.feed(guard, row);
            guard.packet(bytes - 1);
            guard.context(16, 1);
            CHECK.due("MIX of a shorter packet is not gone", guard.run(0), -1);
        }
    }

    private static void mixesWrap() {
        FilterGuard guard = new FilterGuard();
        Assembly program = a().load(8, 6, 1, 16).store(8, 10, -8, 6).load(1, 2, 1, 24).field(Assembly.AND, 2, 7).move(3, 513).copy(1, 10).field(ADD, 1, -8).call(6).exit();
        CHECK.due("a program", program.program(guard), 0);
        guard.context(16, 0x80FF7F0102FE00FFL);
        int[][] firsts = {{}, {0xFF}, {0xFF, 0}, {0xFF, 0, 0xFE}, {0xFF, 0, 0xFE, 2}, {0xFF, 0, 0xFE, 2, 1}, {0xFF, 0, 0xFE, 2, 1, 0x7F},
            {0xFF, 0, 0xFE, 2, 1, 0x7F, 0xFF}};
        for (int bytes = 0; bytes <= 7; bytes++) {
            guard.context(24, bytes);
            answers("MIX of " + bytes + " bytes", guard, mixed(firsts[bytes]));
        }
    }

    private static final long[] NUMBERS = {0, 1, 2, 31, 32, 33, 63, 64, 65, 0x7FFFFFFFL, 0x80000000L, LOW, 0x100000000L, 0x180000000L, Long.MAX_VALUE,
        Long.MIN_VALUE, -1, -2, -0x80000000L, 0xFEDCBA9876543210L};

    private static BigInteger unsigned(long number) {
        return new BigInteger(Long.toUnsignedString(number));
    }

    /** What section G says of an operation: of numbers of 64 bits, or of 32 whose highest are 0 then. */
    private static long operated(int k, long x, long y, int bits) {
        BigInteger mask = BigInteger.ONE.shiftLeft(bits).subtract(BigInteger.ONE);
        BigInteger a = unsigned(x).and(mask);
        BigInteger b = unsigned(y).and(mask);
        boolean isZero = b.signum() == 0;
        int shift = (int) (y & bits - 1);
        BigInteger signed = a.testBit(bits - 1) ? a.subtract(BigInteger.ONE.shiftLeft(bits)) : a;
        BigInteger[] results = {a.add(b), a.subtract(b), a.multiply(b), isZero ? BigInteger.ZERO : a.divide(b), a.or(b), a.and(b), a.shiftLeft(shift),
            a.shiftRight(shift), a.negate(), isZero ? a : a.mod(b), a.xor(b), b, signed.shiftRight(shift)};
        return results[k].and(mask).longValue();
    }

    private static void operations() {
        for (int k = 0; k <= 12; k++) {
            for (int isNarrow = 0; isNarrow < 2; isNarrow++) {
                for (long x : NUMBERS) {
                    operation(k, isNarrow == 1, x);
                }
            }
        }
    }

    private static void operation(int k, boolean isNarrow, long x) {
        FilterGuard guard = new FilterGuard();
        Assembly program = a().load(8, 0, 1, 16).load(8, 2, 1, 24);
        if (k == 8) {
            program.raw(isNarrow ? 132 : 135, 0, 0, 0, 0);
        } else if (isNarrow) {
            program.narrowFrom(k, 0, 2);
        } else {
            program.from(k, 0, 2);
        }
        CHECK.due("a program of operation " + k, program.exit().program(guard), 0);
        guard.context(16, x);
        for (long y : NUMBERS) {
            guard.context(24, y);
            answers((isNarrow ? "narrow " : "") + "operation " + k + " of " + x + ", " + y, guard, operated(k, x, y, isNarrow ? 32 : 64));
        }
    }

    /** What a LOAD does not load is 0; a STORE changes no byte beside its own. */
    private static void loadsAndStores() {
        int[] sizes = {1, 2, 4, 8};
        for (int bytes : sizes) {
            long mask = bytes == 8 ? -1 : (1L << 8 * bytes) - 1;
            for (int at = 0; at < 8; at += bytes) {
                FilterGuard guard = new FilterGuard();
                guard.context(16, 0xF1E2D3C4B5A69788L);
                CHECK.due("LOAD", a().move(0, -1).load(bytes, 0, 1, 16 + at).exit().program(guard), 0);
                answers("LOAD of " + bytes + " at " + at, guard, 0xF1E2D3C4B5A69788L >>> 8 * at & mask);
                CHECK.due("STORE", a().storeField(8, 10, -8, -1).load(8, 2, 1, 16).store(bytes, 10, at - 8, 2).load(8, 0, 10, -8).exit().program(guard), 0);
                long want = ~(mask << 8 * at) | (0xF1E2D3C4B5A69788L & mask) << 8 * at;
                answers("STORE of " + bytes + " at " + at, guard, want);
                CHECK.due("STORE FIELD", a().storeField(8, 10, -8, 0).storeField(bytes, 10, at - 8, -2).load(8, 0, 10, -8).exit().program(guard), 0);
                answers("STORE FIELD of " + bytes + " at " + at, guard, (-2L & mask) << 8 * at);
            }
        }
    }

    /** FIELD is a number of bits of CUT and SWAP alone, not of what comes behind them. */
    private static void storesBehindCuts() {
        for (int bits = 16; bits <= 64; bits *= 2) {
            for (int bytes = 1; bytes <= 8; bytes *= 2) {
                FilterGuard guard = new FilterGuard();
                Assembly cut = a().load(8, 2, 1, 16).storeField(8, 10, -8, 0).cut(2, bits).storeField(bytes, 10, -8, 120).load(8, 0, 10, -8).exit();
                CHECK.due("CUT and STORE FIELD", cut.program(guard), 0);
                answers("STORE FIELD behind CUT", guard, 120);
                Assembly swap = a().load(8, 2, 1, 16).storeField(8, 10, -8, 0).swap(2, bits).storeField(bytes, 10, -8, 120).load(8, 0, 10, -8).exit();
                CHECK.due("SWAP and STORE FIELD", swap.program(guard), 0);
                answers("STORE FIELD behind SWAP", guard, 120);
            }
            FilterGuard guard = new FilterGuard();
            Assembly known = a().load(8, 2, 1, 16).cut(2, bits).storeField(8, 10, -8, 120).load(8, 3, 10, -8).copy(0, 3).exit();
            CHECK.due("CUT and STORE FIELD", known.program(guard), 0);
            CHECK.due("what is known of it", guard.fact(4, 4), 120);
            answers("what is known of it", guard, 120);
        }
    }

    private static void addTo() {
        for (int mode = 0; mode < 3; mode++) {
            FilterGuard guard = new FilterGuard();
            Assembly four = a().load(8, 2, 1, 16).load(8, 3, 1, 24).store(8, 10, -8, 3).addTo(4, 10, -8, 2).load(8, 0, 10, -8).exit();
            CHECK.due("ADD TO of 4 bytes", four.program(guard), 0);
            guard.context(16, 1);
            guard.context(24, 0x12345678FFFFFFFEL);
            CHECK.due("the last ahead of a wrap-around", guard.run(mode), 0x12345678FFFFFFFFL);
            guard.context(16, 2);
            CHECK.due("the first behind it", guard.run(mode), 0x1234567800000000L);
            guard.context(16, 0xFFFFFFFF00000001L);
            CHECK.due("the lowest 4 bytes", guard.run(mode), 0x12345678FFFFFFFFL);
            Assembly eight = a().load(8, 2, 1, 16).load(8, 3, 1, 24).store(8, 10, -8, 3).addTo(8, 10, -8, 2).load(8, 0, 10, -8).exit();
            CHECK.due("ADD TO of 8 bytes", eight.program(guard), 0);
            guard.context(16, 1);
            guard.context(24, -2);
            CHECK.due("the last ahead of a wrap-around", guard.run(mode), -1);
            guard.context(24, -1);
            CHECK.due("the first behind it", guard.run(mode), 0);
        }
    }

    /** A pointer and a number in either order, and what a part of it then points to. */
    private static void sumsOfPointers() {
        FilterGuard guard = new FilterGuard();
        guard.map(0, 4, 8, 2);
        put(guard, 0, 1, 0, 0, 0, 1, 2, 3, 4, 5, 6, 7, 8);
        Assembly found = a().copy(9, 1).storeField(8, 10, -8, 1).mapTo(1, 0).copy(2, 10).field(ADD, 2, -8).call(1).ifField(Assembly.NOT_SAME, 0, 0, 2)
            .leave(-7).load(1, 7, 9, 16).field(Assembly.AND, 7, 3);
        Assembly[] sums = {a().copy(6, 0).from(ADD, 6, 7).load(1, 0, 6, 2).exit(), a().copy(6, 7).from(ADD, 6, 0).load(1, 0, 6, 2).exit(),
            a().move(6, 2).from(ADD, 6, 0).from(ADD, 7, 6).load(1, 0, 7, 0).exit(),
            a().field(Assembly.SUBTRACT, 0, -2).from(ADD, 0, 7).load(1, 0, 0, 0).exit()};
        for (Assembly sum : sums) {
            CHECK.due("a program", both(both(a(), found), sum).program(guard), 0);
            for (int more = 0; more < 4; more++) {
                guard.context(16, more);
                answers("the value's byte " + (more + 2), guard, more + 3);
            }
        }
        guard.context(16, 0x1122334455667788L);
        CHECK.due("CONTEXT to a number", a().move(2, 16).from(ADD, 2, 1).load(8, 0, 2, 0).exit().program(guard), 0);
        answers("CONTEXT at 16", guard, 0x1122334455667788L);
        CHECK.due("STACK to a number", a().move(2, -8).from(ADD, 2, 10).storeField(8, 2, 0, 6).copy(3, 10).field(Assembly.SUBTRACT, 3, 8)
            .load(8, 0, 3, 0).exit().program(guard), 0);
        answers("STACK at -8", guard, 6);
    }

    /** 0 and a MAYBE by each relation, in either order, by FIELD or a register. */
    private static void maybes() {
        Assembly found = a().load(8, 6, 1, 16).store(8, 10, -8, 6).mapTo(1, 0).copy(2, 10).field(ADD, 2, -8).call(1).move(3, 0);
        for (int i = 0; i < 6; i++) {
            int k = i < 3 ? Assembly.SAME : Assembly.NOT_SAME;
            FilterGuard guard = new FilterGuard();
            guard.map(1, 1, 1, 1);
            put(guard, 0, 5, 44);
            int offset = k == Assembly.SAME ? 2 : 1;
            Assembly program = both(a(), found);
            program = i % 3 == 0 ? program.ifField(k, 0, 0, offset) : i % 3 == 1 ? program.ifFrom(k, 0, 3, offset) : program.ifFrom(k, 3, 0, offset);
            program = k == Assembly.SAME ? program.load(1, 0, 0, 0).exit().field(ADD, 0, 9).exit() : program.exit().load(1, 0, 0, 0).exit();
            CHECK.due("a program", program.program(guard), 0);
            guard.context(16, 5);
            answers("a key that is there", guard, 44);
            guard.context(16, 6);
            answers("a key that is not there", guard, k == Assembly.SAME ? 9 : 0);
        }
    }

    /** Bytes between places of the packet and its end, ahead of it and behind it. */
    private static void ends() {
        int[] places = {-65535, -1, 0, 1, 3, 4, 65535};
        for (int size : new int[] {0, 1, 4}) {
            for (int place : places) {
                FilterGuard guard = new FilterGuard();
                Assembly.feed(guard, new byte[size]);
                guard.packet(size);
                Assembly both = a().load(8, 6, 1, 0).load(8, 7, 1, 8).field(ADD, 6, place);
                CHECK.due("PACKET - END", both(a(), both).copy(0, 6).from(Assembly.SUBTRACT, 0, 7).exit().program(guard), 0);
                answers("bytes between", guard, place - size);
                CHECK.due("END - PACKET", both(a(), both).copy(0, 7).from(Assembly.SUBTRACT, 0, 6).exit().program(guard), 0);
                answers("bytes between", guard, size - place);
                CHECK.due("PACKET - PACKET", both(a(), both).load(8, 0, 1, 0).from(Assembly.SUBTRACT, 0, 6).exit().program(guard), 0);
                answers("bytes between", guard, -place);
                CHECK.due("END - END", both(a(), both).load(8, 0, 1, 8).from(Assembly.SUBTRACT, 0, 7).exit().program(guard), 0);
                answers("bytes between", guard, 0);
            }
        }
    }

    private static void endsCompared() {
        int[] ks = {Assembly.ABOVE, Assembly.NOT_BELOW, Assembly.BELOW, Assembly.NOT_ABOVE};
        for (int size : new int[] {0, 4}) {
            for (int place : new int[] {-65535, -1, 0, 1, 3, 4, 5, 65535}) {
                boolean[] holds = {place > size, place >= size, place < size, place <= size};
                boolean[] turned = {place < size, place <= size, place > size, place >= size};
                for (int i = 0; i < 4; i++) {
                    FilterGuard guard = new FilterGuard();
                    Assembly.feed(guard, new byte[size]);
                    guard.packet(size);
                    Assembly both = a().load(8, 6, 1, 0).load(8, 7, 1, 8).field(ADD, 6, place);
                    CHECK.due("a program", both(a(), both).ifFrom(ks[i], 6, 7, 2).leave(0).leave(1).program(guard), 0);
                    answers("relation " + ks[i] + " of " + place + " and the end " + size, guard, holds[i] ? 1 : 0);
                    CHECK.due("a program", both(a(), both).ifFrom(ks[i], 7, 6, 2).leave(0).leave(1).program(guard), 0);
                    answers("relation " + ks[i] + " of the end " + size + " and " + place, guard, turned[i] ? 1 : 0);
                }
            }
        }
    }

    private static void longestPacket() {
        for (int size = 1999; size <= 2000; size++) {
            FilterGuard guard = new FilterGuard();
            byte[] row = new byte[2000];
            row[1998] = 98;
            row[1999] = 99;
            Assembly.feed(guard, row);
            guard.packet(size);
            Assembly last = a().load(8, 6, 1, 0).load(8, 7, 1, 8).field(ADD, 6, 2000).ifFrom(Assembly.ABOVE, 6, 7, 3).load(1, 0, 6, -1)
                .storeField(1, 6, -1, 77).exit().leave(-1);
            CHECK.due("a program of the last byte", last.program(guard), 0);
            CHECK.due("byte 1999 of " + size, guard.run(0), size == 2000 ? 99 : -1);
            CHECK.due("the last byte", guard.packetAt(size - 1), size == 2000 ? 77 : 98);
            CHECK.due("byte 1999 of " + size, guard.run(1), size == 2000 ? 77 : -1);
            CHECK.due("byte 1999 of " + size, guard.run(2), size == 2000 ? 77 : -1);
        }
    }

    private static void wholeStack() {
        FilterGuard guard = new FilterGuard();
        Assembly program = a();
        int[] all = new int[512];
        for (int i = 0; i < 64; i++) {
            program.storeField(8, 10, -512 + 8 * i, i + 1);
            all[8 * i] = i + 1;
        }
        CHECK.due("a program of all the stack", program.copy(1, 10).field(ADD, 1, -512).move(2, 512).call(6).exit().program(guard), 0);
        answers("MIX of all the stack", guard, mixed(all));
        CHECK.due("its two ends", a().storeField(1, 10, -512, 3).storeField(1, 10, -1, 4).load(1, 0, 10, -512).load(1, 2, 10, -1)
            .field(Assembly.LEFT, 0, 8).from(Assembly.OR, 0, 2).exit().program(guard), 0);
        answers("what they hold", guard, 0x304);
    }

    /** A number of 32 bits with sign becomes FIELD of a MOVE, one more or less does not. */
    private static void shortestMoves() {
        long[] numbers = {0, 1, -1, Integer.MAX_VALUE, Integer.MIN_VALUE, 0x80000000L, -0x80000001L, LOW, 0x100000000L, Long.MAX_VALUE, Long.MIN_VALUE};
        for (long number : numbers) {
            FilterGuard guard = new FilterGuard();
            Assembly program = a().wide(2, number).copy(0, 2).exit();
            CHECK.due("a program", program.program(guard), 0);
            boolean isShort = number >= Integer.MIN_VALUE && number <= Integer.MAX_VALUE;
            CHECK.due("MOVE of EXACT " + number, guard.code(2, true), isShort ? Assembly.slot(183, 0, 0, 0, (int) number) : program.word(2));
            CHECK.due("the fact", guard.fact(2, 4), number);
            answers("what it answers", guard, number);
        }
    }
}
