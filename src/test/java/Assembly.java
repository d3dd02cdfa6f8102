import java.util.Arrays;

/** Builds the slots of a program and feeds them to a guard. */
final class Assembly {
    static final int ADD = 0;
    static final int SUBTRACT = 1;
    static final int MULTIPLY = 2;
    static final int DIVIDE = 3;
    static final int OR = 4;
    static final int AND = 5;
    static final int LEFT = 6;
    static final int RIGHT = 7;
    static final int REST = 9;
    static final int XOR = 10;
    static final int MOVE = 11;
    static final int RIGHT_SIGNED = 12;

    static final int SAME = 1;
    static final int ABOVE = 2;
    static final int NOT_BELOW = 3;
    static final int MEET = 4;
    static final int NOT_SAME = 5;
    static final int GREATER = 6;
    static final int NOT_LESS = 7;
    static final int BELOW = 10;
    static final int NOT_ABOVE = 11;
    static final int LESS = 12;
    static final int NOT_GREATER = 13;

    private long[] slots = new long[8];
    private int size;

    static long slot(int op, int to, int from, int offset, int field) {
        return op & 255L | (to & 15L) << 8 | (from & 15L) << 12 | (offset & 0xFFFFL) << 16 | (long) field << 32;
    }

    Assembly raw(long word) {
        if (size == slots.length) {
            slots = Arrays.copyOf(slots, 2 * size);
        }
        slots[size] = word;
        size++;
        return this;
    }

    Assembly raw(int op, int to, int from, int offset, int field) {
        return raw(slot(op, to, from, offset, field));
    }

    Assembly wide(int to, long number) {
        return raw(24, to, 0, 0, (int) number).raw(0, 0, 0, 0, (int) (number >>> 32));
    }

    Assembly mapTo(int to, int map) {
        return raw(24, to, 1, 0, map).raw(0);
    }

    private static int sizeBits(int bytes) {
        return bytes == 8 ? 24 : bytes == 4 ? 0 : bytes == 2 ? 8 : 16;
    }

    Assembly load(int bytes, int to, int from, int offset) {
        return raw(97 + sizeBits(bytes), to, from, offset, 0);
    }

    Assembly store(int bytes, int to, int offset, int from) {
        return raw(99 + sizeBits(bytes), to, from, offset, 0);
    }

    Assembly storeField(int bytes, int to, int offset, int field) {
        return raw(98 + sizeBits(bytes), to, 0, offset, field);
    }

    Assembly addTo(int bytes, int to, int offset, int from) {
        return raw(bytes == 8 ? 219 : 195, to, from, offset, 0);
    }

    Assembly field(int k, int to, int field) {
        return raw(16 * k + 7, to, 0, 0, field);
    }

    Assembly from(int k, int to, int from) {
        return raw(16 * k + 15, to, from, 0, 0);
    }

    Assembly narrowField(int k, int to, int field) {
        return raw(16 * k + 4, to, 0, 0, field);
    }

    Assembly narrowFrom(int k, int to, int from) {
        return raw(16 * k + 12, to, from, 0, 0);
    }

    Assembly move(int to, int field) {
        return field(MOVE, to, field);
    }

    Assembly copy(int to, int from) {
        return from(MOVE, to, from);
    }

    Assembly negate(int to) {
        return raw(135, to, 0, 0, 0);
    }

    Assembly cut(int to, int bits) {
        return raw(212, to, 0, 0, bits);
    }

    Assembly swap(int to, int bits) {
        return raw(220, to, 0, 0, bits);
    }

    Assembly jump(int offset) {
        return raw(5, 0, 0, offset, 0);
    }

    Assembly ifField(int k, int to, int field, int offset) {
        return raw(16 * k + 5, to, 0, offset, field);
    }

    Assembly ifFrom(int k, int to, int from, int offset) {
        return raw(16 * k + 13, to, from, offset, 0);
    }

    Assembly ifNarrowField(int k, int to, int field, int offset) {
        return raw(16 * k + 6, to, 0, offset, field);
    }

    Assembly ifNarrowFrom(int k, int to, int from, int offset) {
        return raw(16 * k + 14, to, from, offset, 0);
    }

    Assembly call(int helper) {
        return raw(133, 0, 0, 0, helper);
    }

    Assembly exit() {
        return raw(149, 0, 0, 0, 0);
    }

    Assembly leave(int answer) {
        return move(0, answer).exit();
    }

    int size() {
        return size;
    }

    long word(int k) {
        return slots[k];
    }

    byte[] bytes() {
        byte[] bytes = new byte[8 * size];
        for (int i = 0; i < bytes.length; i++) {
            bytes[i] = (byte) (slots[i / 8] >>> 8 * (i % 8));
        }
        return bytes;
    }

    int program(FilterGuard guard, int budget) {
        feed(guard, bytes());
        return guard.program(size, budget);
    }

    int program(FilterGuard guard) {
        return program(guard, 20000);
    }

    /** Feeds the bytes, filled up with 0 to a multiple of twenty. */
    static void feed(FilterGuard guard, byte[] bytes) {
        byte[] all = Arrays.copyOf(bytes, (bytes.length + 19) / 20 * 20);
        for (int i = 0; i < all.length; i += 20) {
            guard.feed(number(all, i), number(all, i + 4), number(all, i + 8), number(all, i + 12), number(all, i + 16));
        }
    }

    private static int number(byte[] bytes, int from) {
        return bytes[from] << 24 | (bytes[from + 1] & 255) << 16 | (bytes[from + 2] & 255) << 8 | bytes[from + 3] & 255;
    }

    static void packet(FilterGuard guard, int... bytes) {
        byte[] packet = new byte[bytes.length];
        for (int i = 0; i < bytes.length; i++) {
            packet[i] = (byte) bytes[i];
        }
        feed(guard, packet);
        guard.packet(bytes.length);
    }
}
