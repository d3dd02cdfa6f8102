import java.util.Arrays;

/**
 * Promise 14, section G, on programs made by chance, always the same ones: what was accepted comes to its
 * EXIT in all modes, answers the same and leaves the same packet, maps, CLOCK and what was told.
 */
public final class ModesTest {
    private static final Checker CHECK = new Checker("ModesTest");
    private static final int PROGRAMS = 4000;
    private static final int LAST_TOLD = 4711;
    private static final int[][] MAPS = {{0, 4, 16, 5}, {1, 3, 9, 4}, {1, 16, 64, 2}, {0, 4, 1, 1}};
    private static final int[] NUMBERS = {0, 2, 3, 4, 5};
    private static final int[] SIZES = {1, 2, 4, 8};
    private static final int[] OPERATIONS = {0, 1, 2, 3, 4, 5, 6, 7, 9, 10, 11, 12};
    private static final int[] RELATIONS = {1, 2, 3, 4, 5, 6, 7, 10, 11, 12, 13};
    private static final int ADD = Assembly.ADD;
    private static final int AND = Assembly.AND;

    private static int accepted;

    private final Assembly program = new Assembly();
    private long seed;

    private ModesTest(int number) {
        seed = number * 0x9E3779B97F4A7C15L + 777;
    }

    public static void main(String[] args) {
        for (int i = 0; i < PROGRAMS; i++) {
            new ModesTest(i).run("program " + i);
        }
        CHECK.due("a third of them or more was accepted", accepted >= PROGRAMS / 3, true);
        CHECK.end();
    }

    private int chance(int n) {
        seed += 0x9E3779B97F4A7C15L;
        long mixed = (seed ^ seed >>> 30) * 0xBF58476D1CE4E5B9L;
        mixed = (mixed ^ mixed >>> 27) * 0x94D049BB133111EBL;
        return (int) Long.remainderUnsigned(mixed ^ mixed >>> 31, n);
    }

    private int one(int... all) {
        return all[chance(all.length)];
    }

    private int some() {
        return one(chance(9) - 4, chance(300), 1 << chance(31), -1 - chance(300), 65530 + chance(12), Integer.MIN_VALUE + chance(3));
    }

    private void run(String what) {
        program.copy(9, 1).load(8, 6, 1, 0).load(8, 7, 1, 8);
        for (int register : NUMBERS) {
            number(register);
        }
        int parts = 2 + chance(6);
        for (int i = 0; i < parts; i++) {
            Assembly part = part();
            if (chance(3) == 0) {
                fork(part.size());
            }
            append(part);
        }
        program.copy(8, 0).move(1, LAST_TOLD).call(4).copy(0, 8).exit();
        FilterGuard[] guards = new FilterGuard[3];
        for (int mode = 0; mode < 3; mode++) {
            guards[mode] = new FilterGuard();
            for (int[] map : MAPS) {
                guards[mode].map(map[0], map[1], map[2], map[3]);
            }
            if (program.program(guards[mode]) != 0) {
                return;
            }
        }
        accepted++;
        for (int round = 0; round < 3; round++) {
            runs(what + ", round " + round, guards);
        }
    }

    private void append(Assembly part) {
        for (int i = 0; i < part.size(); i++) {
            program.raw(part.word(i));
        }
    }

    private void runs(String what, FilterGuard[] guards) {
        byte[] packet = new byte[chance(16)];
        for (int i = 0; i < packet.length; i++) {
            packet[i] = (byte) one(chance(4), chance(256));
        }
        long[] context = new long[6];
        for (int i = 0; i < 6; i++) {
            context[i] = one(0, 1) == 0 ? chance(8) : (long) some() << chance(33);
        }
        long[] answers = new long[3];
        int[] done = new int[3];
        for (int mode = 0; mode < 3; mode++) {
            Assembly.feed(guards[mode], packet);
            guards[mode].packet(packet.length);
            for (int i = 0; i < 6; i++) {
                guards[mode].context(16 + 8 * i, context[i]);
            }
            int told = guards[mode].count(2);
            answers[mode] = guards[mode].run(mode);
            done[mode] = guards[mode].ran(0);
            int toldThen = guards[mode].count(2);
            CHECK.due(what + ", mode " + mode + ": it comes to its end", toldThen > told ? guards[mode].told(toldThen - 1) : -1, LAST_TOLD);
        }
        CHECK.due(what + ": mode 1 answers as mode 0", answers[1], answers[0]);
        CHECK.due(what + ": mode 2 answers as mode 0", answers[2], answers[0]);
        CHECK.due(what + ": instructions of modes 0 and 1", done[1], done[0]);
        CHECK.due(what + ": no more of mode 2", done[2] <= done[0], true);
        long[] left = left(guards[0]);
        CHECK.due(what + ": mode 1 leaves what mode 0 does", Arrays.equals(left(guards[1]), left), true);
        CHECK.due(what + ": mode 2 leaves what mode 0 does", Arrays.equals(left(guards[2]), left), true);
    }

    /** The packet, what was told, and of the maps what is there; some of its bytes for the greater ones. */
    private static long[] left(FilterGuard guard) {
        long[] left = new long[200];
        int n = 0;
        for (int k = 0; k < guard.ran(2); k++) {
            left[n++] = guard.packetAt(k);
        }
        for (int k = Math.max(0, guard.count(2) - 8); k < guard.count(2); k++) {
            left[n++] = guard.told(k);
        }
        for (int map = 0; map < MAPS.length; map++) {
            left[n++] = guard.count(10 + map);
            for (int i = 0; i < MAPS[map][3]; i++) {
                left[n++] = guard.entry(map, i, 0);
                for (int k = 0; k < MAPS[map][2]; k += 4) {
                    left[n++] = guard.entry(map, i, 200 + k);
                }
            }
        }
        return left;
    }

    private Assembly part() {
        switch (chance(10)) {
            case 0:
            case 1:
                return operation();
            case 2:
            case 3:
            case 4:
                return packetPart();
            case 5:
            case 6:
                return mapPart();
            case 7:
                return stackPart();
            case 8:
                return mixedNothing();
            default:
                return toldPart();
        }
    }

    private void number(int register) {
        if (chance(2) == 0) {
            program.move(register, some());
        } else {
            program.load(one(SIZES), register, 9, 16 + 8 * chance(6));
        }
    }

    /** A jump by a relation of numbers over the part that comes then. */
    private void fork(int slots) {
        int k = one(RELATIONS);
        boolean isNarrow = chance(3) == 0;
        if (chance(2) == 0) {
            program.raw(16 * k + (isNarrow ? 6 : 5), one(NUMBERS), 0, slots, some());
        } else {
            program.raw(16 * k + (isNarrow ? 14 : 13), one(NUMBERS), one(NUMBERS), slots, 0);
        }
    }

    private Assembly operation() {
        int k = one(OPERATIONS);
        boolean isNarrow = chance(3) == 0;
        boolean isShift = k == Assembly.LEFT || k == Assembly.RIGHT || k == Assembly.RIGHT_SIGNED;
        int field = isShift ? chance(isNarrow ? 32 : 64) : some() | 1;
        boolean isField = chance(2) == 0;
        return new Assembly().raw(16 * k + (isNarrow ? 4 : 7) + (isField ? 0 : 8), one(NUMBERS), isField ? 0 : one(NUMBERS), 0, isField ? field : 0);
    }

    /** A register's number becomes [0, most]. */
    private static Assembly bounded(int register, int most) {
        return new Assembly().field(Assembly.REST, register, most + 1);
    }

    private static Assembly both(Assembly first, Assembly second) {
        for (int i = 0; i < second.size(); i++) {
            first.raw(second.word(i));
        }
        return first;
    }

    /** Behind a CALL the numbers 2 to 5 are NONE: they get others. */
    private Assembly called(Assembly part, int helper) {
        return part.call(helper).move(2, chance(9)).move(3, chance(99)).load(1, 4, 9, 16).load(8, 5, 9, 24);
    }

    /** Loads and stores of a place of the packet, perhaps with a MORE, where there is room. */
    private Assembly packetPart() {
        int place = chance(12) - 2;
        Assembly part = new Assembly().copy(8, 6);
        if (chance(2) == 0) {
            int register = one(NUMBERS);
            both(part, bounded(register, one(1, 3, 7, 255))).from(ADD, 8, register);
        }
        part.field(ADD, 8, place);
        int k = one(Assembly.ABOVE, Assembly.NOT_BELOW, Assembly.BELOW, Assembly.NOT_ABOVE);
        boolean isTurned = chance(2) == 0;
        boolean isLowGone = (k == Assembly.BELOW || k == Assembly.NOT_ABOVE) != isTurned;
        int room = Math.max(0, place + ((k == Assembly.ABOVE || k == Assembly.BELOW) == isLowGone ? 1 : 0));
        Assembly used = inRoom(room, place);
        part.ifFrom(k, isTurned ? 7 : 8, isTurned ? 8 : 7, isLowGone ? 1 : used.size());
        return both(isLowGone ? part.jump(used.size()) : part, used);
    }

    private Assembly inRoom(int room, int place) {
        Assembly used = new Assembly();
        for (int i = chance(3); i >= 0; i--) {
            int bytes = one(SIZES);
            if (bytes <= room) {
                int at = chance(room - bytes + 1) - place;
                both(used, chance(2) == 0 ? new Assembly().load(bytes, one(NUMBERS), 8, at) : new Assembly().store(bytes, 8, at, one(NUMBERS)));
            }
        }
        if (chance(3) == 0) {
            int from = chance(room + 1);
            both(used, bounded(5, room - from)).copy(2, 5).copy(1, 8).field(ADD, 1, from - place);
            called(used, 6);
        }
        return used;
    }

    /** MIX of no bytes, with a pointer of which nothing is known but that it is of the packet. */
    private Assembly mixedNothing() {
        int register = one(NUMBERS);
        return called(bounded(register, 65535).copy(1, 6).from(ADD, 1, register).move(2, 0), 6);
    }

    private Assembly stackPart() {
        int bytes = one(SIZES);
        int place = -512 + bytes * chance(512 / bytes);
        Assembly part = new Assembly().store(bytes, 10, place, one(NUMBERS)).load(bytes, one(NUMBERS), 10, place);
        if (bytes >= 4 && chance(2) == 0) {
            part.addTo(bytes, 10, place, one(NUMBERS)).load(bytes, one(NUMBERS), 10, place);
        }
        return chance(2) == 0 ? part : called(both(part, bounded(5, bytes)).copy(2, 5).copy(1, 10).field(ADD, 1, place), 6);
    }

    private Assembly toldPart() {
        return called(new Assembly().copy(1, one(NUMBERS)), one(4, 5));
    }

    private Assembly mapPart() {
        int map = chance(4);
        int helper = one(1, 1, 1, 2, 3);
        int valueSlots = (MAPS[map][2] + 7) / 8;
        Assembly part = bounded(4, one(1, 3, 7)).store(8, 10, -16, 4).storeField(8, 10, -8, 0);
        for (int i = 0; i < valueSlots && helper == 2; i++) {
            part.storeField(8, 10, -24 - 8 * i, some());
        }
        part.mapTo(1, map).copy(2, 10).field(ADD, 2, -16).copy(3, 10).field(ADD, 3, -16 - 8 * valueSlots);
        called(part, helper);
        return helper == 1 ? both(part, found(MAPS[map][2])) : part;
    }

    /** What a FIND gave is looked at; a value of so many bytes is loaded, stored, added to and mixed. */
    private Assembly found(int bytes) {
        int most = Math.min(one(0, 1, 3), bytes - 1);
        Assembly used = new Assembly().copy(8, 0).load(8, 0, 9, 32).load(1, 2, 9, 40).field(AND, 2, most).from(ADD, 8, 2);
        int free = bytes - most;
        for (int size : SIZES) {
            if (size <= free) {
                int at = chance(free - size + 1);
                both(used, chance(2) == 0 ? new Assembly().load(size, one(NUMBERS), 8, at) : new Assembly().storeField(size, 8, at, some()));
                both(used, size >= 4 && chance(2) == 0 ? new Assembly().addTo(size, 8, at, one(NUMBERS)) : new Assembly());
            }
        }
        int from = chance(free + 1);
        both(used, bounded(5, free - from)).copy(2, 5).copy(1, 8).field(ADD, 1, from);
        called(used, 6);
        boolean isZeroGone = chance(2) == 0;
        Assembly test = isZeroGone ? new Assembly().ifField(Assembly.SAME, 0, 0, used.size())
            : new Assembly().move(3, 0).ifFrom(Assembly.NOT_SAME, 3, 0, 1).jump(used.size());
        return both(test, used);
    }
}
