import java.util.ArrayList;
import java.util.List;

/** Promises 4 and 6, section Z: programs of operations and relations near the edges, held against NumberModel. */
public final class TraceTest {
    private static final Checker CHECK = new Checker("TraceTest");
    private static final int TRACES = 6000;
    /** No more is begun behind so many slots: an object is used for at most 512 calls. */
    private static final int MOST_SLOTS = 450;
    private static final long[] EDGES = {0, 1, 2, 3, 4, 5, 7, 8, 15, 16, 31, 32, 63, 64, 127, 128, 255, 256, 0xF0, 0xFF00, 65535, 65536, 0x7FFFFFFEL,
        0x7FFFFFFFL, 0x80000000L, 0x80000001L, 0xFFFFFFFEL, 0xFFFFFFFFL, 0x100000000L, 0x100000001L, 0x1FFFFFFFFL, 0x0F0F0F0F0F0F0F0FL,
        Long.MAX_VALUE - 1, Long.MAX_VALUE, Long.MIN_VALUE, Long.MIN_VALUE + 1, 0xF0F0F0F0F0F0F0F0L, -0x100000001L, -0x100000000L, -0x80000001L,
        -0x80000000L, -65536, -256, -16, -5, -2, -1};
    /** Operations of section Z by the k of an OP; RELATIONS so, too. */
    private static final int[] OPERATIONS = {0, 1, 2, 3, 6, 5, 8, 9, 11, 4, 7, 12, 10};
    private static final int[] RELATIONS = {-1, 0, 1, 2, 3, 4, 5, 6, -1, -1, 7, 8, 9, 10};
    private static final int[] CONTRARY = {4, 8, 7, 11, 0, 10, 9, 2, 1, 6, 5, 3};
    private static final int[] RELATION_KS = {1, 2, 3, 4, 5, 6, 7, 10, 11, 12, 13};
    private static final int[] OPERATION_KS = {0, 1, 2, 3, 4, 5, 6, 7, 8, 9, 10, 11, 12};

    private final NumberModel[] numbers = new NumberModel[10];
    private final Assembly program = new Assembly();
    private final List<int[]> parted = new ArrayList<>();
    private final List<long[]> reckoned = new ArrayList<>();
    private long seed;
    private boolean isThrough;

    private TraceTest(int number) {
        seed = number * 0x9E3779B97F4A7C15L + 12345;
    }

    public static void main(String[] args) {
        for (int i = 0; i < TRACES; i++) {
            new TraceTest(i).run("trace " + i);
        }
        CHECK.end();
    }

    private int chance(int n) {
        seed += 0x9E3779B97F4A7C15L;
        long mixed = (seed ^ seed >>> 30) * 0xBF58476D1CE4E5B9L;
        mixed = (mixed ^ mixed >>> 27) * 0x94D049BB133111EBL;
        return (int) Long.remainderUnsigned(mixed ^ mixed >>> 31, n);
    }

    private long edge() {
        long number = EDGES[chance(EDGES.length)];
        return chance(3) == 0 ? number + chance(5) - 2 : number;
    }

    private int one(int[] all) {
        return all[chance(all.length)];
    }

    private void run(String what) {
        for (int register = 2; register <= 5; register++) {
            begin(register);
        }
        int steps = 2 + chance(5);
        for (int i = 0; i < steps && !isThrough && program.size() < MOST_SLOTS; i++) {
            int register = 2 + chance(4);
            if (chance(3) == 0) {
                part(one(RELATION_KS), register, 2 + chance(4), chance(4) == 0);
            } else {
                reckon(register);
                look(register);
            }
        }
        FilterGuard guard = new FilterGuard();
        CHECK.due(what, program.leave(0).program(guard), 0);
        for (int[] p : parted) {
            CHECK.due(what + ": slot " + p[0] + " went", guard.fact(p[0], 1), p[1]);
            CHECK.due(what + ": slot " + p[0] + " fell", guard.fact(p[0], 2), p[2]);
        }
        for (long[] r : reckoned) {
            CHECK.due(what + ": slot " + r[0] + " is EXACT", guard.fact((int) r[0], 3), r[1]);
            CHECK.due(what + ": slot " + r[0] + " is the number", guard.fact((int) r[0], 4), r[2]);
        }
    }

    /** A number of 1, 2, 4 or 8 bytes, or an EXACT one, then perhaps bounds or bits of it. */
    private void begin(int register) {
        int bytes = 1 << chance(4);
        if (chance(3) == 0) {
            constant(register, edge());
            return;
        }
        program.load(bytes, register, 1, 16 + 8 * chance(6));
        numbers[register] = bytes == 8 ? NumberModel.any() : NumberModel.range(0, -1L >>> 64 - 8 * bytes).settled();
        for (int i = chance(3); i > 0 && !isThrough; i--) {
            constant(9, edge());
            part(one(RELATION_KS), register, 9, false);
        }
    }

    private void constant(int register, long number) {
        program.wide(register, number);
        numbers[register] = NumberModel.exact(number);
    }

    private void reckon(int register) {
        int kind = chance(16);
        boolean isNarrow = chance(3) == 0;
        NumberModel x = numbers[register];
        if (kind == 0) {
            int bits = 16 << chance(3);
            boolean isCut = chance(2) == 0;
            program.raw(isCut ? 212 : 220, register, 0, 0, bits);
            numbers[register] = NumberModel.operate(isCut ? 14 : 13, x, NumberModel.exact(bits / 8), false);
        } else {
            int k = one(OPERATION_KS);
            int from = 2 + chance(4);
            int field = (int) edge();
            boolean isField = k == 8 || chance(2) == 0;
            boolean isShift = k == 6 || k == 7 || k == 12;
            field = k == 8 ? 0 : isShift ? field & (isNarrow ? 31 : 63) : (k == 3 || k == 9) && field == 0 ? 1 : field;
            NumberModel y = isField ? NumberModel.exact(field) : numbers[from];
            program.raw(16 * k + (isNarrow ? 4 : 7) + (isField ? 0 : 8), register, isField ? 0 : from, 0, isField ? field : 0);
            numbers[register] = NumberModel.operate(OPERATIONS[k], x, y, isNarrow);
        }
        NumberModel r = numbers[register];
        reckoned.add(new long[] {program.size() - 1, r.isExact() ? 1 : 0, r.isExact() ? r.value : 0});
    }

    /** Looks at the bounds and bits of a number by relations of a copy of it. */
    private void look(int register) {
        NumberModel x = numbers[register].copy();
        long[] bounds = {x.least, x.greatest, x.signedLeast, x.signedGreatest};
        int[] ks = {Assembly.BELOW, Assembly.ABOVE, Assembly.LESS, Assembly.GREATER};
        for (int i = 0; i < 4 && !isThrough; i++) {
            for (int beside = -1; beside <= 1 && !isThrough; beside++) {
                ask(register, ks[i], bounds[i] + beside);
            }
        }
        long unknown = x.mask;
        long[] bits = {1L << chance(64), Long.highestOneBit(unknown), Long.lowestOneBit(unknown), Long.highestOneBit(~unknown),
            Long.lowestOneBit(~unknown), Long.highestOneBit(unknown) << 1, Long.lowestOneBit(unknown) >>> 1};
        for (long bit : bits) {
            if (!isThrough) {
                ask(register, Assembly.MEET, bit);
            }
        }
        if (!isThrough) {
            ask(register, one(RELATION_KS), edge());
        }
    }

    private void ask(int register, int k, long number) {
        constant(9, number);
        program.copy(8, register);
        numbers[8] = numbers[register].copy();
        part(k, 8, 9, false);
    }

    /** A jump by a relation; the path goes on by a way that is open. */
    private void part(int k, int to, int from, boolean isNarrow) {
        boolean isItself = to == from;
        NumberModel toGone = numbers[to].copy();
        NumberModel fromGone = numbers[from].copy();
        NumberModel toFallen = numbers[to].copy();
        NumberModel fromFallen = numbers[from].copy();
        boolean canGo = isItself || NumberModel.tell(RELATIONS[k], toGone, fromGone, isNarrow);
        boolean canFall = isItself || NumberModel.tell(CONTRARY[RELATIONS[k]], toFallen, fromFallen, isNarrow);
        boolean goes = canGo && (!canFall || to != 8 && chance(2) == 0);
        parted.add(new int[] {program.size(), canGo ? 1 : 0, canFall ? 1 : 0});
        program.raw(16 * k + (isNarrow ? 14 : 13), to, from, goes ? 2 : 1, 0);
        isThrough = !canGo && !canFall;
        if (goes) {
            program.leave(0);
        } else {
            program.jump(2).leave(0);
        }
        if (!isItself) {
            numbers[to] = goes ? toGone : toFallen;
            numbers[from] = goes ? fromGone : fromFallen;
        }
    }
}
