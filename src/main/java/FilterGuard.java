import java.util.Arrays;

/**
 * A guard for small programs that filter packets. The document's sections are named in the
 * comments by their letters: B programs, C states, D what an instruction does, E exploring,
 * F maps, G runs, Z numbers of which not all is known.
 */
public final class FilterGuard {
    public static final int NONE = -1;

    private static final int TAPE_BYTES = 65536;
    private static final int FIRST_TAPE_BYTES = 1280;
    private static final int MOST_SLOTS = 2000;
    private static final int MOST_BUDGET = 20000;
    private static final int MOST_MAPS = 4;
    private static final int MOST_PACKET = 2000;
    private static final int CONTEXT_BYTES = 64;
    private static final int STACK_BYTES = 512;
    private static final int MOST_TOLD = 1000;
    private static final int MOST_STATES = 200;
    private static final int REGISTERS = 11;
    private static final int CELLS = 75;
    private static final int MOST_PLACE = 65535;
    private static final int MOST_MIXED = 512;
    private static final int MOST_TURNS = 1000000;
    private static final long LOW = 0xFFFFFFFFL;
    private static final long LOW_SIGNED = 0x7FFFFFFFL;
    private static final long MOST = -1L;
    private static final long LEAST_LONG = 0x8000000000000000L;
    private static final long GREATEST_LONG = 0x7FFFFFFFFFFFFFFFL;

    // Kinds of section C.
    private static final int BARE = 0;
    private static final int NUMBER = 1;
    private static final int CONTEXT = 2;
    private static final int STACK = 3;
    private static final int PACKET = 4;
    private static final int END = 5;
    private static final int MAP = 6;
    private static final int VALUE = 7;
    private static final int MAYBE = 8;

    // Families of instructions.
    private static final int UNKNOWN = 0;
    private static final int WIDE = 1;
    private static final int LOAD = 2;
    private static final int STORE = 3;
    private static final int STORE_FIELD = 4;
    private static final int ADD_TO = 5;
    private static final int ARITHMETIC = 6;
    private static final int JUMP = 7;
    private static final int RELATION = 8;
    private static final int CALL = 9;
    private static final int EXIT = 10;

    // Operations of section Z.
    private static final int ADD = 0;
    private static final int SUBTRACT = 1;
    private static final int MULTIPLY = 2;
    private static final int DIVIDE = 3;
    private static final int REST = 4;
    private static final int AND = 5;
    private static final int OR = 6;
    private static final int XOR = 7;
    private static final int LEFT = 8;
    private static final int RIGHT = 9;
    private static final int RIGHT_SIGNED = 10;
    private static final int NEGATE = 11;
    private static final int MOVE = 12;
    private static final int SWAP = 13;
    private static final int CUT = 14;

    // Relations of section Z.
    private static final int SAME = 0;
    private static final int ABOVE = 1;
    private static final int NOT_BELOW = 2;
    private static final int MEET = 3;
    private static final int NOT_SAME = 4;
    private static final int GREATER = 5;
    private static final int NOT_LESS = 6;
    private static final int BELOW = 7;
    private static final int NOT_ABOVE = 8;
    private static final int LESS = 9;
    private static final int NOT_GREATER = 10;
    private static final int NOT_MEET = 11;

    // Helpers of section D.
    private static final int FIND = 1;
    private static final int UPDATE = 2;
    private static final int DELETE = 3;
    private static final int TELL = 4;
    private static final int CLOCK = 5;
    private static final int MIX = 6;

    // Faults of sections B, D and E.
    private static final int FAULT_FORM = 1;
    private static final int FAULT_REGISTER = 2;
    private static final int FAULT_FIELD = 3;
    private static final int FAULT_NO_SUCH = 4;
    private static final int FAULT_TARGET = 5;
    private static final int FAULT_LAST = 6;
    private static final int FAULT_UNREAD = 10;
    private static final int FAULT_ARITHMETIC = 11;
    private static final int FAULT_COMPARED = 12;
    private static final int FAULT_POINTER = 13;
    private static final int FAULT_PLACE = 14;
    private static final int FAULT_UNWRITTEN = 15;
    private static final int FAULT_STORED = 16;
    private static final int FAULT_ARGUMENT = 17;
    private static final int FAULT_EXIT = 18;
    private static final int FAULT_OPEN = 19;
    private static final int FAULT_BUDGET = 20;
    private static final int FAULT_WAITING = 21;

    private static final int OP_WIDE = 24;
    private static final int OP_JUMP = 5;
    private static final int OP_CALL = 133;
    private static final int OP_EXIT = 149;
    private static final int OP_CUT = 212;
    private static final int OP_SWAP = 220;
    private static final int OP_ADD_TO_8 = 219;
    private static final int OP_ADD_TO_4 = 195;
    private static final long OP_MOVE = 183;

    private static final int[] SIZES = {4, 2, 1, 8};
    private static final int[] OPERATIONS = {0, 1, 2, 3, 6, 5, 8, 9, 11, 4, 7, 12, 10, -1, -1, -1};
    private static final int[] RELATIONS = {-1, 0, 1, 2, 3, 4, 5, 6, -1, -1, 7, 8, 9, 10, -1, -1};
    private static final int[] CONTRARY = {4, 8, 7, 11, 0, 10, 9, 2, 1, 6, 5, 3};

    // The longs that pointers are in a run: an area in the highest bits, a place in the lowest.
    private static final int AREA_SHIFT = 40;
    private static final int ENTRY_SHIFT = 20;
    private static final int AREA_CONTEXT = 1;
    private static final int AREA_STACK = 2;
    private static final int AREA_PACKET = 3;
    private static final int AREA_VALUES = 4;

    private byte[] tape;
    private int tapeSize;
    private final Store[] stores;
    private int maps;
    private final Code code;
    private final Code shorter;
    private final Facts facts;
    private final Explorer explorer;
    private final Machine machine;
    private int fault;
    private int faultSlot;
    private boolean isLoaded;
    private boolean isProgram;
    private boolean wasAccepted;

    public FilterGuard() {
        tape = new byte[FIRST_TAPE_BYTES];
        stores = new Store[MOST_MAPS];
        code = new Code();
        shorter = new Code();
        facts = new Facts();
        explorer = new Explorer(code, stores, facts);
        machine = new Machine(code, shorter, stores);
        faultSlot = NONE;
    }

    public boolean feed(int a, int b, int c, int d, int e) {
        if (tapeSize + 20 > TAPE_BYTES) {
            return false;
        }
        if (tapeSize + 20 > tape.length) {
            tape = Arrays.copyOf(tape, Math.min(2 * tape.length, TAPE_BYTES));
        }
        write(a);
        write(b);
        write(c);
        write(d);
        write(e);
        return true;
    }

    private void write(int number) {
        for (int shift = 24; shift >= 0; shift -= 8) {
            tape[tapeSize] = (byte) (number >>> shift);
            tapeSize++;
        }
    }

    public int map(int kind, int keyBytes, int valueBytes, int entries)
            throws IllegalArgumentException, IllegalStateException {
        boolean isKey = kind == Store.ARRAY ? keyBytes == 4 : kind == Store.TABLE && keyBytes >= 1 && keyBytes <= 16;
        if (!isKey || valueBytes < 1 || valueBytes > 64 || entries < 1 || entries > 64) {
            throw new IllegalArgumentException("no such map can be");
        }
        if (maps >= MOST_MAPS || wasAccepted) {
            throw new IllegalStateException("no more maps");
        }
        stores[maps] = new Store(kind, keyBytes, valueBytes, entries);
        maps++;
        return maps - 1;
    }

    public int program(int n, int budget) throws IllegalArgumentException {
        int bytes = tapeSize;
        tapeSize = 0;
        if (n < 1 || n > MOST_SLOTS || 8 * n > bytes || budget < 1 || budget > MOST_BUDGET) {
            throw new IllegalArgumentException("no such program or budget");
        }
        code.load(tape, n);
        facts.clear(n);
        explorer.clear();
        isLoaded = true;
        fault = code.faultOfForm(maps);
        faultSlot = code.faultSlot;
        if (fault == 0) {
            fault = explorer.explore(budget);
            faultSlot = fault == 0 ? NONE : explorer.place();
        }
        isProgram = fault == 0;
        if (isProgram) {
            wasAccepted = true;
            facts.shorten(code, shorter);
        } else {
            shorter.size = 0;
        }
        return fault;
    }

    public int about(int what) {
        if (!isLoaded) {
            return NONE;
        }
        switch (what) {
            case 0:
                return fault;
            case 1:
                return faultSlot;
            case 2:
                return explorer.visits;
            case 3:
                return explorer.keptCount;
            case 4:
                return explorer.mostWaiting;
            case 5:
                return explorer.paths;
            case 6:
                return code.size;
            case 7:
                return shorter.size;
            default:
                return NONE;
        }
    }

    public long fact(int slot, int what) throws IndexOutOfBoundsException {
        if (slot < 0 || slot >= code.size || what < 0 || what > 4) {
            throw new IndexOutOfBoundsException("no such slot or fact");
        }
        return facts.answer(slot, what);
    }

    public long code(int k, boolean isShorter) throws IndexOutOfBoundsException {
        Code asked = isShorter ? shorter : code;
        if (!isProgram || k < 0 || k >= asked.size) {
            throw new IndexOutOfBoundsException("no such slot");
        }
        return asked.slots[k];
    }

    public boolean packet(int n) {
        int bytes = tapeSize;
        tapeSize = 0;
        if (n < 0 || n > MOST_PACKET || n > bytes) {
            return false;
        }
        machine.takePacket(tape, n);
        return true;
    }

    public boolean context(int at, long bytes) {
        if (at < 0 || at >= CONTEXT_BYTES || at % 8 != 0) {
            return false;
        }
        machine.writeContext(at, bytes);
        return true;
    }

    public int put(int map) throws IllegalArgumentException {
        int bytes = tapeSize;
        tapeSize = 0;
        if (map < 0 || map >= maps || stores[map].keyBytes + stores[map].valueBytes > bytes) {
            throw new IllegalArgumentException("no such map, or too few bytes");
        }
        return stores[map].update(tape, 0, tape, stores[map].keyBytes);
    }

    public int entry(int map, int i, int what) throws IndexOutOfBoundsException {
        if (map < 0 || map >= maps || i < 0 || i >= stores[map].entries || !stores[map].hasByte(i, what)) {
            throw new IndexOutOfBoundsException("no such entry or byte");
        }
        return stores[map].byteOf(i, what);
    }

    public int packetAt(int k) throws IndexOutOfBoundsException {
        if (k < 0 || k >= machine.packetSize) {
            throw new IndexOutOfBoundsException("no such byte");
        }
        return machine.packet[k] & 255;
    }

    public void clock(long time) {
        machine.time = time;
    }

    public long run(int mode) throws IllegalArgumentException, IllegalStateException {
        if (mode < 0 || mode > 2) {
            throw new IllegalArgumentException("no such mode");
        }
        if (!isProgram) {
            throw new IllegalStateException("no program");
        }
        return machine.go(mode);
    }

    public int ran(int what) {
        if (machine.runs == 0) {
            return NONE;
        }
        switch (what) {
            case 0:
                return machine.done;
            case 1:
                return machine.mode;
            case 2:
                return machine.ranPacket;
            default:
                return NONE;
        }
    }

    public long told(int k) throws IndexOutOfBoundsException {
        if (k < 0 || k >= machine.toldCount) {
            throw new IndexOutOfBoundsException("not told");
        }
        return machine.tellings[k];
    }

    public int count(int what) {
        switch (what) {
            case 0:
                return tapeSize;
            case 1:
                return maps;
            case 2:
                return machine.toldCount;
            case 3:
                return isProgram ? 1 : 0;
            case 4:
                return machine.runs;
            default:
                return what >= 10 && what - 10 < maps ? stores[what - 10].held() : NONE;
        }
    }

    /** A number of section Z. */
    private static final class Num {
        long value;
        long mask;
        long least;
        long greatest;
        long signedLeast;
        long signedGreatest;

        void exact(long c) {
            value = c;
            mask = 0;
            least = c;
            greatest = c;
            signedLeast = c;
            signedGreatest = c;
        }

        void any() {
            value = 0;
            mask = MOST;
            least = 0;
            greatest = MOST;
            signedLeast = LEAST_LONG;
            signedGreatest = GREATEST_LONG;
        }

        void range(long from, long to) {
            least = from;
            greatest = to;
        }

        void bits(long newValue, long newMask) {
            value = newValue;
            mask = newMask;
        }

        void copy(Num other) {
            value = other.value;
            mask = other.mask;
            least = other.least;
            greatest = other.greatest;
            signedLeast = other.signedLeast;
            signedGreatest = other.signedGreatest;
        }

        boolean isExact() {
            return mask == 0;
        }

        boolean isExact(long c) {
            return mask == 0 && value == c;
        }

        /** Without sign: that order is the signed one of longs whose highest bit is turned. */
        static boolean isBelow(long x, long y) {
            return (x ^ LEAST_LONG) < (y ^ LEAST_LONG);
        }

        /** This one, and the two that move a bound, turn the bit themselves: calls stay eight deep. */
        boolean isAbove(long limit) {
            return (greatest ^ LEAST_LONG) > (limit ^ LEAST_LONG);
        }

        boolean covers(Num other) {
            return (~mask & other.mask) == 0
                && ((value ^ other.value) & ~mask) == 0
                && !isBelow(other.least, least)
                && !isBelow(greatest, other.greatest)
                && signedLeast <= other.signedLeast
                && signedGreatest >= other.signedGreatest;
        }

        /** False if the number is EMPTY. */
        boolean settle() {
            for (int time = 0; time < 3; time++) {
                raiseLeast(value);
                lowerGreatest(value | mask);
                if ((least ^ greatest) >= 0) {
                    signedLeast = Math.max(signedLeast, least);
                    signedGreatest = Math.min(signedGreatest, greatest);
                }
                if ((signedLeast ^ signedGreatest) >= 0) {
                    raiseLeast(signedLeast);
                    lowerGreatest(signedGreatest);
                }
                // Bounds only draw together: what crossed ahead of this is still crossed here.
                if (isBelow(greatest, least) || signedLeast > signedGreatest) {
                    return false;
                }
                long open = downFromHighest(least ^ greatest);
                if (((value ^ least) & ~mask & ~open) != 0) {
                    return false;
                }
                value = value & open | least & ~open;
                mask &= open;
            }
            return true;
        }

        /** The highest bit that is 1, and all below. */
        private static long downFromHighest(long bits) {
            long down = bits | bits >>> 1;
            down |= down >>> 2;
            down |= down >>> 4;
            down |= down >>> 8;
            down |= down >>> 16;
            return down | down >>> 32;
        }

        /** How many of the lowest bits are known 0. */
        int lowestZeros() {
            long ones = value | mask;
            return Long.bitCount(~ones & ones - 1);
        }

        void raiseLeast(long limit) {
            if ((least ^ LEAST_LONG) < (limit ^ LEAST_LONG)) {
                least = limit;
            }
        }

        void lowerGreatest(long limit) {
            if ((greatest ^ LEAST_LONG) > (limit ^ LEAST_LONG)) {
                greatest = limit;
            }
        }
    }

    /** The operations and relations of section Z. */
    private static final class Reckoner {
        private final Num first = new Num();
        private final Num second = new Num();
        private final Num result = new Num();
        private final Num zero = new Num();
        private final Num limit = new Num();

        /** Of longs without sign; by 0 it is 0. */
        static long quotient(long x, long by) {
            if (by == 0) {
                return 0;
            }
            if (by < 0) {
                return (x ^ LEAST_LONG) < (by ^ LEAST_LONG) ? 0 : 1;
            }
            if (x >= 0) {
                return x / by;
            }
            // Half of x has no highest bit; twice its quotient is x's own, or one below it.
            long nearly = (x >>> 1) / by << 1;
            long left = x - nearly * by;
            return (left ^ LEAST_LONG) < (by ^ LEAST_LONG) ? nearly : nearly + 1;
        }

        /** The lowest so many bytes in turn. */
        static long swapped(long x, int bytes) {
            long turned = 0;
            for (int i = 0; i < bytes; i++) {
                turned = turned << 8 | x >>> 8 * i & 255;
            }
            return turned;
        }

        void operate(int operation, Num x, Num y, boolean isNarrow, Num out) {
            if (!isNarrow) {
                operateWide(operation, x, y, out);
                return;
            }
            first.copy(x);
            narrow(first);
            second.copy(y);
            narrow(second);
            boolean isShift = operation >= LEFT && operation <= RIGHT_SIGNED;
            if (isShift && second.isExact()) {
                second.exact(second.value & 31);
            }
            if (operation == RIGHT_SIGNED && first.isAbove(LOW_SIGNED)) {
                out.any();
            } else {
                operateWide(operation == RIGHT_SIGNED ? RIGHT : operation, first, second, out);
            }
            narrow(out);
        }

        void operateWide(int operation, Num x, Num y, Num out) {
            result.any();
            switch (operation) {
                case ADD:
                    add(x, y);
                    break;
                case SUBTRACT:
                    subtract(x, y);
                    break;
                case MULTIPLY:
                    multiply(x, y);
                    break;
                case DIVIDE:
                    divide(x, y);
                    break;
                case REST:
                    rest(x, y);
                    break;
                case AND:
                    and(x, y);
                    break;
                case OR:
                    result.bits(x.value | y.value, (x.mask | y.mask) & ~(x.value | y.value));
                    result.raiseLeast(x.least);
                    result.raiseLeast(y.least);
                    break;
                case XOR:
                    result.bits((x.value ^ y.value) & ~(x.mask | y.mask), x.mask | y.mask);
                    break;
                case NEGATE:
                    zero.exact(0);
                    subtract(zero, x);
                    break;
                case MOVE:
                    result.copy(y);
                    break;
                case SWAP:
                    swap(x, y);
                    break;
                case CUT:
                    limit.exact(y.isExact(2) ? 0xFFFFL : y.isExact(4) ? LOW : MOST);
                    if (x.isAbove(limit.value)) {
                        and(x, limit);
                    } else {
                        result.copy(x);
                    }
                    break;
                default:
                    shift(operation, x, y);
                    break;
            }
            if (!result.settle()) {
                result.any();
            }
            out.copy(result);
        }

        void narrow(Num x) {
            if (!x.isAbove(LOW)) {
                return;
            }
            boolean isSameTop = x.least >>> 32 == x.greatest >>> 32;
            x.range(isSameTop ? x.least & LOW : 0, isSameTop ? x.greatest & LOW : LOW);
            x.bits(x.value & LOW, x.mask & LOW);
            x.signedLeast = 0;
            x.signedGreatest = LOW;
            if (!x.settle()) {
                x.bits(0, LOW);
                x.range(0, LOW);
                x.signedLeast = 0;
                x.signedGreatest = LOW;
            }
        }

        private void add(Num x, Num y) {
            long sum = x.value + y.value;
            long unknown = (x.mask + y.mask + sum ^ sum) | x.mask | y.mask;
            result.bits(sum & ~unknown, unknown);
            if (!Num.isBelow(x.greatest + y.greatest, x.greatest)) {
                result.range(x.least + y.least, x.greatest + y.greatest);
            }
            long low = x.signedLeast + y.signedLeast;
            long high = x.signedGreatest + y.signedGreatest;
            boolean isOverLow = ((x.signedLeast ^ low) & (y.signedLeast ^ low)) < 0;
            boolean isOverHigh = ((x.signedGreatest ^ high) & (y.signedGreatest ^ high)) < 0;
            if (!isOverLow && !isOverHigh) {
                result.signedLeast = low;
                result.signedGreatest = high;
            }
        }

        private void subtract(Num x, Num y) {
            long difference = x.value - y.value;
            long unknown = (difference + x.mask ^ difference - y.mask) | x.mask | y.mask;
            result.bits(difference & ~unknown, unknown);
            if (!Num.isBelow(x.least, y.greatest)) {
                result.range(x.least - y.greatest, x.greatest - y.least);
            }
            long low = x.signedLeast - y.signedGreatest;
            long high = x.signedGreatest - y.signedLeast;
            boolean isOverLow = ((x.signedLeast ^ y.signedGreatest) & (x.signedLeast ^ low)) < 0;
            boolean isOverHigh = ((x.signedGreatest ^ y.signedLeast) & (x.signedGreatest ^ high)) < 0;
            if (!isOverLow && !isOverHigh) {
                result.signedLeast = low;
                result.signedGreatest = high;
            }
        }

        private void multiply(Num x, Num y) {
            if (x.isExact() && y.isExact()) {
                result.exact(x.value * y.value);
                return;
            }
            int zeros = x.lowestZeros() + y.lowestZeros();
            result.bits(0, zeros >= 64 ? 0 : MOST << zeros);
            if (!x.isAbove(LOW) && !y.isAbove(LOW)) {
                result.range(x.least * y.least, x.greatest * y.greatest);
            }
        }

        private void divide(Num x, Num y) {
            long by = y.value;
            if (!y.isExact()) {
                result.range(0, x.greatest);
            } else if (by == 0) {
                result.exact(0);
            } else {
                result.range(quotient(x.least, by), quotient(x.greatest, by));
            }
        }

        private void rest(Num x, Num y) {
            if (!y.isExact()) {
                result.range(0, x.greatest);
            } else if (y.value == 0 || Num.isBelow(x.greatest, y.value)) {
                result.copy(x);
            } else {
                result.range(0, y.value - 1);
            }
        }

        private void and(Num x, Num y) {
            long value = x.value & y.value;
            result.bits(value, (x.value | x.mask) & (y.value | y.mask) & ~value);
            result.lowerGreatest(x.greatest);
            result.lowerGreatest(y.greatest);
        }

        private void shift(int operation, Num x, Num y) {
            if (!y.isExact()) {
                return;
            }
            int by = (int) y.value & 63;
            if (operation == LEFT) {
                result.bits(x.value << by, x.mask << by);
                if (x.greatest << by >>> by == x.greatest) {
                    result.range(x.least << by, x.greatest << by);
                }
            } else if (operation == RIGHT) {
                result.bits(x.value >>> by, x.mask >>> by);
                result.range(x.least >>> by, x.greatest >>> by);
            } else {
                result.bits(x.value >> by, x.mask >> by);
                result.signedLeast = x.signedLeast >> by;
                result.signedGreatest = x.signedGreatest >> by;
            }
        }

        private void swap(Num x, Num y) {
            int bytes = y.isExact(2) ? 2 : y.isExact(4) ? 4 : 8;
            if (x.isExact()) {
                result.exact(swapped(x.value, bytes));
            } else if (bytes < 8) {
                result.range(0, (1L << 8 * bytes) - 1);
            }
        }

        /** Tells x and y what holds of them by the relation; false if it can't hold. */
        boolean tell(int relation, Num x, Num y, boolean isNarrow) {
            boolean isSigned = relation == GREATER || relation == NOT_LESS || relation == LESS || relation == NOT_GREATER;
            long most = isSigned ? LOW_SIGNED : LOW;
            if (!isNarrow || !x.isAbove(most) && !y.isAbove(most)) {
                return tellWide(relation, x, y);
            }
            if (isSigned) {
                return true;
            }
            first.copy(x);
            narrow(first);
            second.copy(y);
            narrow(second);
            return tellWide(relation, first, second);
        }

        private boolean tellWide(int relation, Num x, Num y) {
            boolean canHold;
            switch (relation) {
                case SAME:
                    canHold = same(x, y);
                    break;
                case ABOVE:
                    canHold = above(x, y);
                    break;
                case NOT_BELOW:
                    canHold = notBelow(x, y);
                    break;
                case MEET:
                    canHold = meet(x, y);
                    break;
                case NOT_SAME:
                    canHold = notSame(x, y);
                    break;
                case GREATER:
                    canHold = greater(x, y);
                    break;
                case NOT_LESS:
                    canHold = notLess(x, y);
                    break;
                case BELOW:
                    canHold = above(y, x);
                    break;
                case NOT_ABOVE:
                    canHold = notBelow(y, x);
                    break;
                case LESS:
                    canHold = greater(y, x);
                    break;
                case NOT_GREATER:
                    canHold = notLess(y, x);
                    break;
                default:
                    canHold = notMeet(x, y);
                    break;
            }
            return canHold && x.settle() && y.settle();
        }

        private boolean above(Num x, Num y) {
            if (y.least == MOST || x.greatest == 0) {
                return false;
            }
            x.raiseLeast(y.least + 1);
            y.lowerGreatest(x.greatest - 1);
            return true;
        }

        private boolean notBelow(Num x, Num y) {
            x.raiseLeast(y.least);
            y.lowerGreatest(x.greatest);
            return true;
        }

        private boolean greater(Num x, Num y) {
            if (y.signedLeast == GREATEST_LONG || x.signedGreatest == LEAST_LONG) {
                return false;
            }
            x.signedLeast = Math.max(x.signedLeast, y.signedLeast + 1);
            y.signedGreatest = Math.min(y.signedGreatest, x.signedGreatest - 1);
            return true;
        }

        private boolean notLess(Num x, Num y) {
            x.signedLeast = Math.max(x.signedLeast, y.signedLeast);
            y.signedGreatest = Math.min(y.signedGreatest, x.signedGreatest);
            return true;
        }

        private boolean same(Num x, Num y) {
            if (((x.value ^ y.value) & ~x.mask & ~y.mask) != 0) {
                return false;
            }
            x.bits(x.value | y.value, x.mask & y.mask);
            x.raiseLeast(y.least);
            x.lowerGreatest(y.greatest);
            x.signedLeast = Math.max(x.signedLeast, y.signedLeast);
            x.signedGreatest = Math.min(x.signedGreatest, y.signedGreatest);
            y.copy(x);
            return true;
        }

        private boolean notSame(Num x, Num y) {
            boolean wasExact = x.isExact();
            long was = x.value;
            if (y.isExact() && !exclude(x, y.value)) {
                return false;
            }
            return !wasExact || exclude(y, was);
        }

        private boolean exclude(Num x, long c) {
            if (x.mask == 0 && x.value == c) {
                return false;
            }
            x.least += x.least == c ? 1 : 0;
            x.greatest -= x.greatest == c ? 1 : 0;
            x.signedLeast += x.signedLeast == c ? 1 : 0;
            x.signedGreatest -= x.signedGreatest == c ? 1 : 0;
            return true;
        }

        private boolean meet(Num x, Num y) {
            boolean wasOneBit = x.isExact() && Long.bitCount(x.value) == 1;
            long was = x.value;
            if (((x.value | x.mask) & (y.value | y.mask)) == 0) {
                return false;
            }
            if (y.isExact() && Long.bitCount(y.value) == 1) {
                x.bits(x.value | y.value, x.mask & ~y.value);
            }
            if (wasOneBit) {
                y.bits(y.value | was, y.mask & ~was);
            }
            return true;
        }

        private boolean notMeet(Num x, Num y) {
            boolean wasExact = x.isExact();
            if ((x.value & y.value) != 0) {
                return false;
            }
            if (y.isExact()) {
                x.mask &= ~y.value;
            }
            if (wasExact) {
                y.mask &= ~x.value;
            }
            return true;
        }
    }

    /** What is known of a register or of a slot of the stack. */
    private static final class Cell {
        int kind;
        int place;
        int mapNumber;
        int identity;
        int room;
        /** One bit for each byte that is written; 0 while the slot is saved. */
        int written;
        /** The NUMBER, or the MORE of a pointer. */
        final Num number = new Num();

        void clear() {
            kind = BARE;
            written = 0;
        }

        void copy(Cell other) {
            kind = other.kind;
            written = other.written;
            if (kind == BARE) {
                return;
            }
            place = other.place;
            mapNumber = other.mapNumber;
            identity = other.identity;
            room = other.room;
            if (kind == NUMBER || kind == PACKET || kind == VALUE) {
                number.copy(other.number);
            }
        }

        void becomeExact(long c) {
            kind = NUMBER;
            number.exact(c);
        }

        void becomeAny() {
            kind = NUMBER;
            number.any();
        }

        void becomeRead(int bytes) {
            kind = NUMBER;
            number.any();
            if (bytes < 8) {
                number.range(0, (1L << 8 * bytes) - 1);
                number.settle();
            }
        }

        void become(int newKind, int newPlace) {
            kind = newKind;
            place = newPlace;
            mapNumber = 0;
            identity = 0;
            room = 0;
            number.exact(0);
        }

        boolean isPointer() {
            return kind == CONTEXT || kind == STACK || kind == PACKET || kind == VALUE;
        }

        boolean isZero() {
            return kind == NUMBER && number.isExact(0);
        }

        boolean isOfPacket() {
            return kind == PACKET || kind == END;
        }

        /** Of a slot: the bytes are written, or it is saved with a number. */
        boolean isReadable(int bytes) {
            return kind == NUMBER || kind == BARE && (written & bytes) == bytes;
        }

        /** Of a slot: a store of some of its bytes; what was saved there is so no more. */
        void storeBytes(int bytes) {
            if (kind != BARE) {
                written = kind == NUMBER ? 255 : 0;
                kind = BARE;
            }
            written |= bytes;
        }

        boolean hasIdentity() {
            return kind == PACKET || kind == MAYBE;
        }

        /** All of WITHIN that can be seen without the other cells. */
        boolean isAround(Cell other) {
            if (kind == BARE) {
                boolean isWritten = other.kind == BARE && (written & ~other.written) == 0;
                return written == 0 || isWritten || other.kind == NUMBER;
            }
            if (kind != other.kind) {
                return false;
            }
            switch (kind) {
                case NUMBER:
                    return number.covers(other.number);
                case CONTEXT:
                case STACK:
                    return place == other.place;
                case PACKET:
                    return place == other.place && room <= other.room && number.covers(other.number);
                case VALUE:
                    return place == other.place && mapNumber == other.mapNumber && number.covers(other.number);
                case MAP:
                case MAYBE:
                    return mapNumber == other.mapNumber;
                default:
                    return true;
            }
        }
    }

    /** A state of section C with the slot of the program at which its path is. */
    private static final class State {
        /** The registers, then the slots of the stack from the highest place down. */
        final Cell[] cells = new Cell[CELLS];
        /** Programs use few slots of the stack: all cells from here on are clear. */
        int used = REGISTERS;
        int at;
        /** How many waited when it was kept: those above go on from it. */
        int waitingThen;
        boolean isOpen;

        State() {
            for (int i = 0; i < CELLS; i++) {
                cells[i] = new Cell();
            }
        }

        void atFirst() {
            clearFrom(0);
            cells[1].become(CONTEXT, 0);
            cells[10].become(STACK, 0);
            used = REGISTERS;
            at = 0;
        }

        void copy(State other) {
            clearFrom(other.used);
            for (int i = 0; i < other.used; i++) {
                cells[i].copy(other.cells[i]);
            }
            used = other.used;
            at = other.at;
        }

        private void clearFrom(int first) {
            for (int i = first; i < used; i++) {
                cells[i].clear();
            }
        }

        /** The slot of the stack that holds the byte at a place of -512 .. -1. */
        Cell slotAt(int place) {
            int i = REGISTERS + Math.max(0, Math.min(-1 - place >> 3, CELLS - REGISTERS - 1));
            used = Math.max(used, i + 1);
            return cells[i];
        }
    }

    /** The slots of a program, and one of its instructions taken apart. */
    private static final class Code {
        final long[] slots = new long[MOST_SLOTS];
        final boolean[] isSecond = new boolean[MOST_SLOTS];
        private final boolean[] isMark = new boolean[MOST_SLOTS];
        int size;
        int faultSlot;
        int op;
        int to;
        int from;
        int offset;
        int field;
        int family;
        int bytes;
        int operation;
        boolean isNarrow;
        boolean readsTo;
        boolean readsFrom;

        void load(byte[] tape, int n) {
            size = n;
            faultSlot = NONE;
            for (int k = 0; k < n; k++) {
                long word = 0;
                for (int i = 7; i >= 0; i--) {
                    word = word << 8 | tape[8 * k + i] & 255;
                }
                slots[k] = word;
                isSecond[k] = false;
                isMark[k] = false;
            }
        }

        void look(int k) {
            long word = k >= 0 && k < size ? slots[k] : 0;
            op = (int) word & 255;
            to = (int) (word >>> 8) & 15;
            from = (int) (word >>> 12) & 15;
            offset = (short) (word >>> 16);
            field = (int) (word >>> 32);
            bytes = SIZES[op >> 3 & 3];
            family = familyOfMemory();
            operation = -1;
            isNarrow = false;
            readsTo = family == STORE || family == STORE_FIELD || family == ADD_TO;
            readsFrom = family == LOAD || family == STORE || family == ADD_TO;
            int group = op & 7;
            if (group == 4 || group == 7) {
                lookAtArithmetic(group == 4);
            } else if (group == 5 || group == 6) {
                lookAtJump(group == 6);
            }
        }

        private int familyOfMemory() {
            boolean isPlain = (op & 0xE0) == 0x60;
            switch (op & 7) {
                case 0:
                    return op == OP_WIDE ? WIDE : UNKNOWN;
                case 1:
                    return isPlain ? LOAD : UNKNOWN;
                case 2:
                    return isPlain ? STORE_FIELD : UNKNOWN;
                case 3:
                    return isPlain ? STORE : op == OP_ADD_TO_8 || op == OP_ADD_TO_4 ? ADD_TO : UNKNOWN;
                default:
                    return UNKNOWN;
            }
        }

        private void lookAtArithmetic(boolean isOfNarrow) {
            boolean isFrom = (op & 8) != 0;
            if (op == OP_CUT || op == OP_SWAP) {
                operation = op == OP_CUT ? CUT : SWAP;
            } else {
                operation = OPERATIONS[op >> 4];
                isNarrow = isOfNarrow;
                readsFrom = isFrom;
            }
            if (operation >= 0 && !(operation == NEGATE && isFrom)) {
                family = ARITHMETIC;
                readsTo = operation != MOVE;
            }
        }

        private void lookAtJump(boolean isOfNarrow) {
            operation = RELATIONS[op >> 4];
            if (operation >= 0) {
                family = RELATION;
                isNarrow = isOfNarrow;
                readsTo = true;
                readsFrom = (op & 8) != 0;
            } else if (op == OP_JUMP) {
                family = JUMP;
            } else if (op == OP_CALL) {
                family = CALL;
            } else if (op == OP_EXIT) {
                family = EXIT;
            }
        }

        /** One bit for each byte of the slot of the stack that is loaded or stored at a place. */
        int bytesAt(int place) {
            return (1 << bytes) - 1 << (place & 7);
        }

        /** What FIELD is as the second number of an operation. */
        long fieldNumber() {
            return operation == CUT || operation == SWAP ? field / 8 : field;
        }

        /** The number that the two slots of a WIDE hold. */
        long wideNumber(int k) {
            long high = k + 1 < size ? slots[k + 1] & ~LOW : 0;
            return high | field & LOW;
        }

        int behind(int k) {
            return k + (family == WIDE ? 2 : 1);
        }

        int target(int k) {
            return k + 1 + offset;
        }

        boolean isMarkAt(int k) {
            return k >= 0 && k < size && isMark[k];
        }

        boolean isJump() {
            return family == JUMP || family == RELATION;
        }

        /** The first fault of form, with its slot in faultSlot; marks the targets of jumps. */
        int faultOfForm(int maps) {
            int last = 0;
            for (int k = 0; k < size; k++) {
                look(k);
                int fault = faultOfSlot(k, maps);
                if (fault != 0) {
                    faultSlot = k;
                    return fault;
                }
                last = k;
                if (family == WIDE) {
                    k++;
                    isSecond[k] = true;
                }
            }
            for (int k = 0; k < size; k++) {
                look(k);
                if (!isSecond[k] && isJump() && !markTarget(target(k))) {
                    faultSlot = k;
                    return FAULT_TARGET;
                }
            }
            look(last);
            if (family != EXIT && family != JUMP) {
                faultSlot = last;
                return FAULT_LAST;
            }
            return 0;
        }

        private boolean markTarget(int target) {
            if (target < 0 || target >= size || isSecond[target]) {
                return false;
            }
            isMark[target] = true;
            return true;
        }

        private int faultOfSlot(int k, int maps) {
            if (!isShaped(k)) {
                return FAULT_FORM;
            }
            boolean changesTo = family == WIDE || family == LOAD || family == ARITHMETIC;
            if (to > 10 || from > 10 || changesTo && to == 10) {
                return FAULT_REGISTER;
            }
            if (family == ARITHMETIC && !readsFrom && isWrongField()) {
                return FAULT_FIELD;
            }
            if (family == CALL && (field < FIND || field > MIX)) {
                return FAULT_NO_SUCH;
            }
            return family == WIDE && from == 1 && (field < 0 || field >= maps) ? FAULT_NO_SUCH : 0;
        }

        private boolean isWrongField() {
            if (operation == DIVIDE || operation == REST) {
                return field == 0;
            }
            boolean isShift = operation >= LEFT && operation <= RIGHT_SIGNED;
            return isShift && (field < 0 || field > (isNarrow ? 31 : 63));
        }

        private boolean isShaped(int k) {
            switch (family) {
                case WIDE:
                    return offset == 0 && from <= 1 && k + 1 < size && (slots[k + 1] & LOW) == 0
                        && (from == 0 || slots[k + 1] == 0);
                case LOAD:
                case STORE:
                case ADD_TO:
                    return field == 0;
                case STORE_FIELD:
                    return from == 0;
                case ARITHMETIC:
                    return offset == 0 && isOneOperand() && isFieldShaped();
                case RELATION:
                    return isOneOperand();
                case JUMP:
                    return field == 0 && to == 0 && from == 0;
                case CALL:
                    return offset == 0 && to == 0 && from == 0;
                case EXIT:
                    return field == 0 && offset == 0 && to == 0 && from == 0;
                default:
                    return false;
            }
        }

        private boolean isOneOperand() {
            return readsFrom ? field == 0 : from == 0;
        }

        private boolean isFieldShaped() {
            if (operation == CUT || operation == SWAP) {
                return field == 16 || field == 32 || field == 64;
            }
            return operation != NEGATE || field == 0;
        }
    }

    /** What an instruction does to a state: section D. */
    private static final class Steps {
        private static final int NOTHING_TOLD = 0;
        private static final int NUMBERS_TOLD = 1;
        private static final int MAYBE_TOLD = 2;
        private static final int ROOM_TOLD = 3;

        private final Code code;
        private final Store[] stores;
        private final Reckoner reckoner = new Reckoner();
        private final Cell fieldCell = new Cell();
        private final Num moreNumber = new Num();
        private Cell[] cells;
        private State state;
        private int identities;

        // What the latest jump by a relation found out.
        boolean canGo;
        boolean canFall;
        private int toldKind;
        private int toldIdentity;
        private int roomGone;
        private int roomFallen;
        private boolean isZeroGone;
        private final Num toGone = new Num();
        private final Num fromGone = new Num();
        private final Num toFallen = new Num();
        private final Num fromFallen = new Num();

        Steps(Code itsCode, Store[] itsStores) {
            code = itsCode;
            stores = itsStores;
        }

        void begin() {
            identities = 0;
        }

        /** Does the instruction that code looks at; answers its fault or 0. */
        int take(State now) {
            state = now;
            cells = now.cells;
            boolean isToBare = code.readsTo && cells[code.to].kind == BARE;
            if (isToBare || code.readsFrom && cells[code.from].kind == BARE) {
                return FAULT_UNREAD;
            }
            switch (code.family) {
                case WIDE:
                    return wide();
                case ARITHMETIC:
                    return arithmetic();
                case RELATION:
                    return relation();
                case CALL:
                    return help();
                case EXIT:
                    return cells[0].kind == NUMBER ? 0 : FAULT_EXIT;
                case JUMP:
                    return 0;
                default:
                    return memory();
            }
        }

        private int wide() {
            if (code.from == 0) {
                cells[code.to].becomeExact(code.wideNumber(state.at));
            } else {
                cells[code.to].become(MAP, 0);
                cells[code.to].mapNumber = code.field;
            }
            return 0;
        }

        /** FROM, or FIELD as an exact number. */
        private Cell operand() {
            if (code.readsFrom) {
                return cells[code.from];
            }
            fieldCell.becomeExact(code.fieldNumber());
            return fieldCell;
        }

        private int arithmetic() {
            Cell to = cells[code.to];
            Cell by = operand();
            if (code.operation == MOVE && !code.isNarrow) {
                to.copy(by);
                return 0;
            }
            if (by.kind == NUMBER && (to.kind == NUMBER || code.operation == MOVE)) {
                to.kind = NUMBER;
                reckoner.operate(code.operation, to.number, by.number, code.isNarrow, to.number);
                return 0;
            }
            if (code.isNarrow || code.operation > SUBTRACT) {
                return FAULT_ARITHMETIC;
            }
            if (to.isPointer() && by.kind == NUMBER) {
                return shift(to, by.number);
            }
            if (code.operation == ADD && to.kind == NUMBER && by.isPointer()) {
                moreNumber.copy(to.number);
                to.copy(by);
                return shift(to, moreNumber);
            }
            boolean isDistance = to.isOfPacket() && by.isOfPacket();
            if (code.operation != SUBTRACT || !isDistance) {
                return FAULT_ARITHMETIC;
            }
            to.becomeAny();
            return 0;
        }

        private int shift(Cell pointer, Num by) {
            boolean isSubtract = code.operation == SUBTRACT;
            if (by.isExact()) {
                long c = by.value;
                if (c < -MOST_PLACE || c > MOST_PLACE) {
                    return FAULT_ARITHMETIC;
                }
                int place = pointer.place + (int) (isSubtract ? -c : c);
                pointer.place = place;
                return place < -MOST_PLACE || place > MOST_PLACE ? FAULT_ARITHMETIC : 0;
            }
            boolean isFixed = pointer.kind == CONTEXT || pointer.kind == STACK;
            if (isSubtract || isFixed || by.isAbove(MOST_PLACE)) {
                return FAULT_ARITHMETIC;
            }
            reckoner.operateWide(ADD, pointer.number, by, pointer.number);
            if (pointer.number.isAbove(MOST_PLACE)) {
                return FAULT_ARITHMETIC;
            }
            if (pointer.kind == PACKET) {
                pointer.identity = newIdentity();
                pointer.room = 0;
            }
            return 0;
        }

        private int newIdentity() {
            identities++;
            return identities;
        }

        private int relation() {
            Cell to = cells[code.to];
            Cell by = operand();
            canGo = true;
            canFall = true;
            toldKind = NOTHING_TOLD;
            if (to.kind == NUMBER && by.kind == NUMBER) {
                if (code.readsFrom && code.to == code.from) {
                    return 0;
                }
                toldKind = NUMBERS_TOLD;
                toGone.copy(to.number);
                fromGone.copy(by.number);
                canGo = reckoner.tell(code.operation, toGone, fromGone, code.isNarrow);
                toFallen.copy(to.number);
                fromFallen.copy(by.number);
                canFall = reckoner.tell(CONTRARY[code.operation], toFallen, fromFallen, code.isNarrow);
                return 0;
            }
            if (code.isNarrow) {
                return FAULT_COMPARED;
            }
            boolean isSameTest = code.operation == SAME || code.operation == NOT_SAME;
            if (isSameTest && (to.kind == MAYBE && by.isZero() || to.isZero() && by.kind == MAYBE)) {
                toldKind = MAYBE_TOLD;
                toldIdentity = to.kind == MAYBE ? to.identity : by.identity;
                isZeroGone = code.operation == SAME;
                return 0;
            }
            if (to.kind == PACKET && by.kind == END) {
                return relateToEnd(to, code.operation);
            }
            return to.kind == END && by.kind == PACKET ? relateToEnd(by, turned(code.operation)) : FAULT_COMPARED;
        }

        private int turned(int relation) {
            switch (relation) {
                case ABOVE:
                    return BELOW;
                case BELOW:
                    return ABOVE;
                case NOT_BELOW:
                    return NOT_ABOVE;
                case NOT_ABOVE:
                    return NOT_BELOW;
                default:
                    return relation;
            }
        }

        private int relateToEnd(Cell pointer, int relation) {
            toldKind = ROOM_TOLD;
            toldIdentity = pointer.identity;
            roomGone = 0;
            roomFallen = 0;
            switch (relation) {
                case ABOVE:
                    roomFallen = pointer.place;
                    return 0;
                case NOT_ABOVE:
                    roomGone = pointer.place;
                    return 0;
                case BELOW:
                    roomGone = pointer.place + 1;
                    return 0;
                case NOT_BELOW:
                    roomFallen = pointer.place + 1;
                    return 0;
                default:
                    return FAULT_COMPARED;
            }
        }

        /** Tells a state what the latest jump by a relation found out for one of its ways. */
        void tellWay(State way, boolean isGone) {
            if (toldKind == NUMBERS_TOLD) {
                way.cells[code.to].number.copy(isGone ? toGone : toFallen);
                if (code.readsFrom) {
                    way.cells[code.from].number.copy(isGone ? fromGone : fromFallen);
                }
                return;
            }
            if (toldKind == NOTHING_TOLD) {
                return;
            }
            int newKind = isGone == isZeroGone ? NUMBER : VALUE;
            int room = isGone ? roomGone : roomFallen;
            for (int i = 0; i < way.used; i++) {
                Cell cell = way.cells[i];
                if (!cell.hasIdentity() || cell.identity != toldIdentity) {
                    continue;
                }
                if (toldKind == MAYBE_TOLD && cell.kind == MAYBE) {
                    int mapNumber = cell.mapNumber;
                    cell.become(newKind, 0);
                    cell.mapNumber = mapNumber;
                } else if (toldKind == ROOM_TOLD && cell.kind == PACKET) {
                    cell.room = Math.max(cell.room, room);
                }
            }
        }

        private int memory() {
            boolean isLoad = code.family == LOAD;
            Cell pointer = cells[isLoad ? code.from : code.to];
            if (!pointer.isPointer()) {
                return FAULT_POINTER;
            }
            int place = pointer.place + code.offset;
            if (!isPlace(pointer, place)) {
                return FAULT_PLACE;
            }
            if (isLoad) {
                return load(pointer.kind, place);
            }
            Cell stored = operand();
            boolean takesAll = code.family == STORE && pointer.kind == STACK && code.bytes == 8;
            if (stored.kind != NUMBER && !takesAll) {
                return FAULT_STORED;
            }
            if (pointer.kind != STACK) {
                return 0;
            }
            if (code.family == ADD_TO) {
                return addTo(place);
            }
            store(place, stored);
            return 0;
        }

        private boolean isPlace(Cell pointer, int place) {
            int bytes = code.bytes;
            boolean isMultiple = place % bytes == 0;
            switch (pointer.kind) {
                case CONTEXT:
                    return code.family == LOAD && place >= 0 && place + bytes <= CONTEXT_BYTES && isMultiple
                        && (place >= 16 || bytes == 8);
                case STACK:
                    return place >= -STACK_BYTES && place + bytes <= 0 && isMultiple;
                case PACKET:
                    return code.family != ADD_TO && isInPacket(pointer, place, bytes);
                default:
                    return isInValue(pointer, place, bytes);
            }
        }

        private boolean isInPacket(Cell pointer, int place, long bytes) {
            return place >= 0 && place + bytes <= pointer.room;
        }

        private boolean isInValue(Cell pointer, int place, long bytes) {
            int valueBytes = stores[pointer.mapNumber].valueBytes;
            return place + pointer.number.least >= 0 && place + pointer.number.greatest + bytes <= valueBytes;
        }

        private int load(int kind, int place) {
            Cell to = cells[code.to];
            if (kind == STACK) {
                Cell slot = state.slotAt(place);
                if (slot.kind != BARE && code.bytes == 8) {
                    to.copy(slot);
                    return 0;
                }
                if (!slot.isReadable(code.bytesAt(place))) {
                    return FAULT_UNWRITTEN;
                }
            }
            if (kind == CONTEXT && place < 16) {
                to.become(place == 0 ? PACKET : END, 0);
            } else {
                to.becomeRead(code.bytes);
            }
            return 0;
        }

        private int addTo(int place) {
            Cell slot = state.slotAt(place);
            if (slot.kind != BARE && slot.kind != NUMBER && code.bytes == 8) {
                return FAULT_STORED;
            }
            if (!slot.isReadable(code.bytesAt(place))) {
                return FAULT_UNWRITTEN;
            }
            fieldCell.becomeAny();
            store(place, fieldCell);
            return 0;
        }

        private void store(int place, Cell stored) {
            Cell slot = state.slotAt(place);
            if (code.bytes == 8) {
                slot.copy(stored);
                return;
            }
            slot.storeBytes(code.bytesAt(place));
        }

        private int help() {
            int fault = faultOfArguments();
            if (fault != 0) {
                return fault;
            }
            int mapNumber = cells[1].mapNumber;
            for (int i = 1; i <= 5; i++) {
                cells[i].clear();
            }
            Cell given = cells[0];
            switch (code.field) {
                case FIND:
                    given.become(MAYBE, 0);
                    given.mapNumber = mapNumber;
                    given.identity = newIdentity();
                    break;
                case TELL:
                    given.becomeExact(0);
                    break;
                case MIX:
                    given.becomeRead(4);
                    break;
                default:
                    given.becomeAny();
                    break;
            }
            return 0;
        }

        private int faultOfArguments() {
            if (code.field == CLOCK) {
                return 0;
            }
            Cell leading = cells[code.field == MIX ? 2 : 1];
            int leadingKind = code.field == TELL || code.field == MIX ? NUMBER : MAP;
            if (leading.kind != leadingKind) {
                return leading.kind == BARE ? FAULT_UNREAD : FAULT_ARGUMENT;
            }
            if (code.field == TELL) {
                return 0;
            }
            if (code.field == MIX) {
                boolean isTooLong = leading.number.isAbove(MOST_MIXED);
                return isTooLong ? FAULT_ARGUMENT : faultOfReading(cells[1], (int) leading.number.greatest);
            }
            Store store = stores[leading.mapNumber];
            int fault = faultOfReading(cells[2], store.keyBytes);
            return fault != 0 || code.field != UPDATE ? fault : faultOfReading(cells[3], store.valueBytes);
        }

        private int faultOfReading(Cell pointer, int bytes) {
            boolean isRight;
            switch (pointer.kind) {
                case BARE:
                    return FAULT_UNREAD;
                case STACK:
                    isRight = isStackReadable(pointer.place, bytes);
                    break;
                case PACKET:
                    isRight = isInPacket(pointer, pointer.place, bytes);
                    break;
                case VALUE:
                    isRight = isInValue(pointer, pointer.place, bytes);
                    break;
                default:
                    isRight = false;
                    break;
            }
            return isRight ? 0 : FAULT_ARGUMENT;
        }

        private boolean isStackReadable(int place, int bytes) {
            if (place < -STACK_BYTES || place + bytes > 0) {
                return false;
            }
            for (int i = place; i < place + bytes; i++) {
                if (!state.slotAt(i).isReadable(1 << (i & 7))) {
                    return false;
                }
            }
            return true;
        }
    }

    /** Goes all the ways of a program: section E. */
    private static final class Explorer {
        private final Code code;
        private final Facts facts;
        private final Steps steps;
        private final State[] kept = new State[MOST_STATES];
        private final State[] waiting = new State[MOST_STATES];
        private final int[] keptIdentities = new int[CELLS + 1];
        private final int[] itsIdentities = new int[CELLS + 1];
        private int pairs;
        private State now;
        private int waitingCount;
        private boolean isThrough;
        int keptCount;
        int visits;
        int mostWaiting;
        int paths;

        Explorer(Code itsCode, Store[] stores, Facts itsFacts) {
            code = itsCode;
            facts = itsFacts;
            steps = new Steps(itsCode, stores);
            now = new State();
        }

        void clear() {
            waitingCount = 0;
            keptCount = 0;
            visits = 0;
            mostWaiting = 0;
            paths = 0;
        }

        int place() {
            return now.at;
        }

        /** The fault, or 0 if the program is accepted. */
        int explore(int budget) {
            steps.begin();
            now.atFirst();
            for (int turn = 0; turn < MOST_TURNS; turn++) {
                isThrough = false;
                int fault = code.isMarkAt(now.at) ? meetKept() : 0;
                if (fault == 0 && !isThrough) {
                    if (visits >= budget) {
                        return FAULT_BUDGET;
                    }
                    visits++;
                    facts.visit(now.at);
                    code.look(now.at);
                    fault = steps.take(now);
                    fault = fault == 0 ? goOn(now.at) : fault;
                }
                if (fault != 0) {
                    return fault;
                }
                if (isThrough && !takeLatest()) {
                    return 0;
                }
            }
            return FAULT_BUDGET;
        }

        private int meetKept() {
            for (int i = 0; i < keptCount; i++) {
                if (kept[i].at == now.at && isWithin(kept[i])) {
                    isThrough = !kept[i].isOpen;
                    return isThrough ? 0 : FAULT_OPEN;
                }
            }
            if (keptCount < MOST_STATES) {
                State copy = kept[keptCount] == null ? new State() : kept[keptCount];
                copy.copy(now);
                copy.isOpen = true;
                copy.waitingThen = waitingCount;
                kept[keptCount] = copy;
                keptCount++;
            }
            return 0;
        }

        /** Whether the state now is within a kept one. */
        private boolean isWithin(State keptState) {
            pairs = 1;
            for (int i = 0; i < keptState.used; i++) {
                Cell ours = keptState.cells[i];
                Cell its = now.cells[i];
                if (!ours.isAround(its) || ours.hasIdentity() && !isPaired(ours.identity, its.identity)) {
                    return false;
                }
            }
            return true;
        }

        /** Identities go together one with one; the first pair, never written, is 0 with 0. */
        private boolean isPaired(int ours, int its) {
            for (int i = 0; i < pairs; i++) {
                if (keptIdentities[i] == ours || itsIdentities[i] == its) {
                    return keptIdentities[i] == ours && itsIdentities[i] == its;
                }
            }
            keptIdentities[pairs] = ours;
            itsIdentities[pairs] = its;
            pairs++;
            return true;
        }

        private int goOn(int at) {
            switch (code.family) {
                case RELATION:
                    return part(at);
                case EXIT:
                    isThrough = true;
                    return 0;
                case JUMP:
                    now.at = code.target(at);
                    return 0;
                case ARITHMETIC:
                    facts.reckon(at, now.cells[code.to]);
                    break;
                default:
                    break;
            }
            now.at = code.behind(at);
            return 0;
        }

        /** Goes on by the ways of a jump that are open. */
        private int part(int at) {
            facts.part(at, steps.canGo, steps.canFall);
            isThrough = !steps.canGo && !steps.canFall;
            if (steps.canGo && steps.canFall && !holdBack(code.target(at))) {
                return FAULT_WAITING;
            }
            if (!isThrough) {
                steps.tellWay(now, !steps.canFall);
                now.at = steps.canFall ? at + 1 : code.target(at);
            }
            return 0;
        }

        private boolean holdBack(int at) {
            if (waitingCount >= MOST_STATES) {
                return false;
            }
            State copy = waiting[waitingCount] == null ? new State() : waiting[waitingCount];
            copy.copy(now);
            copy.at = at;
            steps.tellWay(copy, true);
            waiting[waitingCount] = copy;
            waitingCount++;
            mostWaiting = Math.max(mostWaiting, waitingCount);
            return true;
        }

        /** Ends a path; false if none waits. */
        private boolean takeLatest() {
            paths++;
            // What went on from a kept state waits above the number that waited when it was kept.
            for (int i = 0; i < keptCount; i++) {
                if (kept[i].waitingThen >= waitingCount) {
                    kept[i].isOpen = false;
                }
            }
            if (waitingCount == 0) {
                return false;
            }
            waitingCount--;
            State taken = waiting[waitingCount];
            // The state of the path that is through serves again for the next one that waits.
            waiting[waitingCount] = now;
            now = taken;
            return true;
        }
    }

    /** What exploring found out of each slot, and the program made shorter by it. */
    private static final class Facts {
        private static final int NOT_SEEN = 0;
        private static final int SAME_EXACT = 1;
        private static final int NOT_EXACT = 2;

        private final int[] visits = new int[MOST_SLOTS];
        private final boolean[] went = new boolean[MOST_SLOTS];
        private final boolean[] fell = new boolean[MOST_SLOTS];
        private final int[] exactness = new int[MOST_SLOTS];
        private final long[] exactNumber = new long[MOST_SLOTS];
        private final boolean[] stays = new boolean[MOST_SLOTS];
        private final int[] newPlace = new int[MOST_SLOTS + 1];

        void clear(int size) {
            for (int k = 0; k < size; k++) {
                visits[k] = 0;
                went[k] = false;
                fell[k] = false;
                exactness[k] = NOT_SEEN;
                exactNumber[k] = 0;
            }
        }

        void visit(int slot) {
            visits[slot]++;
        }

        void part(int slot, boolean canGo, boolean canFall) {
            went[slot] |= canGo;
            fell[slot] |= canFall;
        }

        void reckon(int slot, Cell to) {
            boolean isExact = to.kind == NUMBER && to.number.isExact();
            if (exactness[slot] == NOT_SEEN && isExact) {
                exactness[slot] = SAME_EXACT;
                exactNumber[slot] = to.number.value;
            } else if (!isExact || to.number.value != exactNumber[slot]) {
                exactness[slot] = NOT_EXACT;
            }
        }

        long answer(int slot, int what) {
            boolean isExact = exactness[slot] == SAME_EXACT;
            switch (what) {
                case 0:
                    return visits[slot];
                case 1:
                    return went[slot] ? 1 : 0;
                case 2:
                    return fell[slot] ? 1 : 0;
                case 3:
                    return isExact ? 1 : 0;
                default:
                    return isExact ? exactNumber[slot] : 0;
            }
        }

        void shorten(Code code, Code shorter) {
            shorter.size = code.size;
            for (int k = 0; k < code.size; k++) {
                if (!code.isSecond[k]) {
                    code.look(k);
                    stays[k] = visits[k] > 0 && !(code.family == RELATION && fell[k] && !went[k]);
                    shorter.slots[k] = changed(code, k);
                } else {
                    stays[k] = stays[k - 1];
                    shorter.slots[k] = code.slots[k];
                }
            }
            leaveOutJumps(shorter, code);
            numberPlaces(code.size);
            pack(shorter, code);
        }

        /** The slot with what was found out of it; its OFFSET is still the old one. */
        private long changed(Code code, int k) {
            if (code.family == RELATION && went[k] && !fell[k]) {
                return OP_JUMP | (code.offset & 0xFFFFL) << 16;
            }
            long c = exactNumber[k];
            if (code.family == ARITHMETIC && exactness[k] == SAME_EXACT && c == (int) c) {
                return OP_MOVE | (long) code.to << 8 | c << 32;
            }
            return code.slots[k];
        }

        private void leaveOutJumps(Code shorter, Code code) {
            int next = code.size;
            for (int k = code.size - 1; k >= 0; k--) {
                shorter.look(k);
                boolean isJump = !code.isSecond[k] && shorter.family == JUMP;
                int target = shorter.target(k);
                if (isJump && target > k && next >= target) {
                    stays[k] = false;
                }
                if (stays[k]) {
                    next = k;
                }
            }
        }

        private void numberPlaces(int size) {
            int left = 0;
            for (int k = 0; k < size; k++) {
                newPlace[k] = left;
                left += stays[k] ? 1 : 0;
            }
            newPlace[size] = left;
        }

        private void pack(Code shorter, Code code) {
            for (int k = 0; k < code.size; k++) {
                shorter.look(k);
                long word = shorter.slots[k];
                int target = shorter.target(k);
                if (stays[k] && !code.isSecond[k] && shorter.isJump() && target >= 0 && target <= code.size) {
                    long offset = newPlace[target] - newPlace[k] - 1;
                    word = word & ~0xFFFF0000L | (offset & 0xFFFFL) << 16;
                }
                if (stays[k]) {
                    shorter.slots[newPlace[k]] = word;
                }
            }
            shorter.size = newPlace[code.size];
        }
    }

    /** A map: section F. */
    private static final class Store {
        static final int ARRAY = 0;
        static final int TABLE = 1;

        private final boolean isTable;
        final int keyBytes;
        final int valueBytes;
        final int entries;
        private final byte[] keys;
        final byte[] values;
        private final boolean[] isThere;

        Store(int kind, int itsKeyBytes, int itsValueBytes, int itsEntries) {
            isTable = kind == TABLE;
            keyBytes = itsKeyBytes;
            valueBytes = itsValueBytes;
            entries = itsEntries;
            keys = new byte[isTable ? itsEntries * itsKeyBytes : 0];
            values = new byte[itsEntries * itsValueBytes];
            isThere = new boolean[itsEntries];
            for (int i = 0; i < itsEntries; i++) {
                isThere[i] = !isTable;
            }
        }

        /** The entry with the key that stands in the bytes from a place on, or NONE. */
        int entryOf(byte[] bytes, int from) {
            if (!isTable) {
                long number = 0;
                for (int i = 3; i >= 0; i--) {
                    number = number << 8 | bytes[from + i] & 255;
                }
                return number < entries ? (int) number : NONE;
            }
            for (int i = 0; i < entries; i++) {
                if (isThere[i] && isKey(i, bytes, from)) {
                    return i;
                }
            }
            return NONE;
        }

        private boolean isKey(int i, byte[] bytes, int from) {
            for (int k = 0; k < keyBytes; k++) {
                if (keys[i * keyBytes + k] != bytes[from + k]) {
                    return false;
                }
            }
            return true;
        }

        private int leastFree() {
            for (int i = 0; i < entries; i++) {
                if (!isThere[i]) {
                    return i;
                }
            }
            return NONE;
        }

        int update(byte[] key, int keyFrom, byte[] value, int valueFrom) {
            int i = entryOf(key, keyFrom);
            if (i == NONE && isTable) {
                i = leastFree();
                if (i != NONE) {
                    isThere[i] = true;
                    System.arraycopy(key, keyFrom, keys, i * keyBytes, keyBytes);
                }
            }
            if (i == NONE) {
                return -1;
            }
            System.arraycopy(value, valueFrom, values, i * valueBytes, valueBytes);
            return 0;
        }

        int delete(byte[] key, int keyFrom) {
            int i = isTable ? entryOf(key, keyFrom) : NONE;
            if (i == NONE) {
                return -1;
            }
            isThere[i] = false;
            return 0;
        }

        int held() {
            int held = 0;
            for (int i = 0; i < entries; i++) {
                held += isThere[i] ? 1 : 0;
            }
            return held;
        }

        boolean hasByte(int i, int what) {
            boolean isKeyByte = what >= 100 && what < 100 + keyBytes;
            return what == 0 || isKeyByte && isTable && isThere[i] || what >= 200 && what < 200 + valueBytes;
        }

        int byteOf(int i, int what) {
            if (what == 0) {
                return isThere[i] ? 1 : 0;
            }
            return (what < 200 ? keys[i * keyBytes + what - 100] : values[i * valueBytes + what - 200]) & 255;
        }
    }

    /** Runs a program: section G. */
    private static final class Machine {
        private final Code code;
        private final Code shorter;
        private final Store[] stores;
        private final Checks checks;
        private final byte[] context = new byte[CONTEXT_BYTES];
        private final byte[] stack = new byte[STACK_BYTES];
        /** As many as REGS can tell, so that no slot leads outside. */
        private final long[] registers = new long[16];
        final byte[] packet = new byte[MOST_PACKET];
        int packetSize;
        final long[] tellings = new long[MOST_TOLD];
        int toldCount;
        long time;
        int runs;
        int mode;
        int done;
        int ranPacket;
        private Code program;
        private int at;
        // Where the latest address that was looked for is.
        private byte[] area;
        private int areaAt;

        Machine(Code itsCode, Code itsShorter, Store[] itsStores) {
            code = itsCode;
            shorter = itsShorter;
            stores = itsStores;
            checks = new Checks(itsCode, itsStores);
            program = itsCode;
            area = stack;
        }

        void takePacket(byte[] tape, int n) {
            System.arraycopy(tape, 0, packet, 0, n);
            packetSize = n;
        }

        void writeContext(int from, long bytes) {
            area = context;
            areaAt = from;
            writeBytes(8, bytes);
        }

        /** Runs, and answers register 0. */
        long go(int newMode) {
            begin(newMode);
            boolean isOn = true;
            for (int turn = 0; turn < MOST_TURNS && isOn; turn++) {
                program.look(at);
                if (mode == 0 && !checks.allows(registers)) {
                    break;
                }
                done++;
                isOn = step(at);
                if (mode == 0 && program.family == CALL && program.field == FIND) {
                    checks.find(registers[0] != 0);
                }
            }
            return registers[0];
        }

        private void begin(int newMode) {
            mode = newMode;
            program = newMode == 2 ? shorter : code;
            runs++;
            done = 0;
            at = 0;
            ranPacket = packetSize;
            Arrays.fill(registers, 0);
            Arrays.fill(stack, (byte) 0);
            writeContext(0, baseOf(AREA_PACKET));
            writeContext(8, baseOf(AREA_PACKET) + packetSize);
            registers[1] = baseOf(AREA_CONTEXT);
            registers[10] = baseOf(AREA_STACK);
            checks.begin();
        }

        /** Does one instruction; false if the run ends with it. */
        private boolean step(int here) {
            at = program.behind(here);
            switch (program.family) {
                case WIDE:
                    registers[program.to] = program.from == 0 ? program.wideNumber(here) : program.field;
                    return true;
                case ARITHMETIC:
                    registers[program.to] = reckoned(registers[program.to], operand());
                    return true;
                case JUMP:
                    at = program.target(here);
                    return true;
                case RELATION:
                    at = holds(registers[program.to], operand()) ? program.target(here) : at;
                    return true;
                case CALL:
                    return help();
                case LOAD:
                case STORE:
                case STORE_FIELD:
                case ADD_TO:
                    return memory();
                default:
                    return false;
            }
        }

        private long operand() {
            return program.readsFrom ? registers[program.from] : program.fieldNumber();
        }

        private long reckoned(long x, long y) {
            int operation = program.operation;
            if (!program.isNarrow) {
                return reckonedWide(operation, x, y);
            }
            boolean isShift = operation >= LEFT && operation <= RIGHT_SIGNED;
            long first = operation == RIGHT_SIGNED ? (int) x : x & LOW;
            return reckonedWide(operation, first, isShift ? y & 31 : y & LOW) & LOW;
        }

        private long reckonedWide(int operation, long x, long y) {
            switch (operation) {
                case ADD:
                    return x + y;
                case SUBTRACT:
                    return x - y;
                case MULTIPLY:
                    return x * y;
                case DIVIDE:
                    return Reckoner.quotient(x, y);
                case REST:
                    // By 0 the quotient is 0, so this is x.
                    return x - Reckoner.quotient(x, y) * y;
                case AND:
                    return x & y;
                case OR:
                    return x | y;
                case XOR:
                    return x ^ y;
                case LEFT:
                    return x << (y & 63);
                case RIGHT:
                    return x >>> (y & 63);
                case RIGHT_SIGNED:
                    return x >> (y & 63);
                case NEGATE:
                    return -x;
                case SWAP:
                    return Reckoner.swapped(x, (int) y);
                case CUT:
                    return x & MOST >>> 64 - 8 * (int) y;
                default:
                    return y;
            }
        }

        private boolean holds(long a, long b) {
            long x = program.isNarrow ? a & LOW : a;
            long y = program.isNarrow ? b & LOW : b;
            long signedX = program.isNarrow ? (int) a : a;
            long signedY = program.isNarrow ? (int) b : b;
            switch (program.operation) {
                case SAME:
                    return x == y;
                case ABOVE:
                    return Num.isBelow(y, x);
                case NOT_BELOW:
                    return !Num.isBelow(x, y);
                case MEET:
                    return (x & y) != 0;
                case NOT_SAME:
                    return x != y;
                case GREATER:
                    return signedX > signedY;
                case NOT_LESS:
                    return signedX >= signedY;
                case BELOW:
                    return Num.isBelow(x, y);
                case NOT_ABOVE:
                    return !Num.isBelow(y, x);
                case LESS:
                    return signedX < signedY;
                default:
                    return signedX <= signedY;
            }
        }

        private boolean memory() {
            boolean isLoad = program.family == LOAD;
            long address = registers[isLoad ? program.from : program.to] + program.offset;
            if (!locate(address, program.bytes)) {
                return false;
            }
            if (isLoad) {
                registers[program.to] = readBytes(program.bytes);
            } else {
                long sum = program.family == ADD_TO ? readBytes(program.bytes) : 0;
                writeBytes(program.bytes, sum + operand());
            }
            return true;
        }

        /** Finds the bytes at an address; false if they are not all there. */
        private boolean locate(long address, int bytes) {
            int number = areaOf(address);
            long place = address - baseOf(number);
            long from = 0;
            long size;
            if (number == AREA_CONTEXT) {
                area = context;
                size = CONTEXT_BYTES;
            } else if (number == AREA_STACK) {
                area = stack;
                from = STACK_BYTES;
                size = STACK_BYTES;
            } else if (number == AREA_PACKET) {
                area = packet;
                size = packetSize;
            } else {
                return number >= AREA_VALUES && locateValue(number - AREA_VALUES, place, bytes);
            }
            areaAt = (int) (from + place);
            return place >= -from && from + place + bytes <= size;
        }

        private boolean locateValue(int mapNumber, long rest, int bytes) {
            if (mapNumber >= MOST_MAPS || stores[mapNumber] == null) {
                return false;
            }
            Store store = stores[mapNumber];
            long i = rest + (1L << ENTRY_SHIFT - 1) >> ENTRY_SHIFT;
            long place = rest - (i << ENTRY_SHIFT);
            area = store.values;
            areaAt = (int) (i * store.valueBytes + place);
            return i >= 0 && i < store.entries && place >= 0 && place + bytes <= store.valueBytes;
        }

        private long readBytes(int bytes) {
            long number = 0;
            for (int i = bytes - 1; i >= 0; i--) {
                number = number << 8 | area[areaAt + i] & 255;
            }
            return number;
        }

        private void writeBytes(int bytes, long number) {
            for (int i = 0; i < bytes; i++) {
                area[areaAt + i] = (byte) (number >>> 8 * i);
            }
        }

        private boolean help() {
            switch (program.field) {
                case TELL:
                    if (toldCount < MOST_TOLD) {
                        tellings[toldCount] = registers[1];
                        toldCount++;
                    }
                    registers[0] = 0;
                    return true;
                case CLOCK:
                    registers[0] = time;
                    time++;
                    return true;
                case MIX:
                    return mix(registers[2]);
                default:
                    return useMap(registers[1]);
            }
        }

        private boolean mix(long bytes) {
            // Of no bytes nothing is read: its pointer may lie behind the packet.
            boolean isRight = bytes == 0 || bytes > 0 && bytes <= MOST_MIXED && locate(registers[1], (int) bytes);
            if (!isRight) {
                return false;
            }
            int mixed = 1;
            for (int i = 0; i < bytes; i++) {
                mixed = 31 * mixed + (area[areaAt + i] & 255);
            }
            registers[0] = mixed & LOW;
            return true;
        }

        private boolean useMap(long mapNumber) {
            if (mapNumber < 0 || mapNumber >= MOST_MAPS || stores[(int) mapNumber] == null) {
                return false;
            }
            Store store = stores[(int) mapNumber];
            if (!locate(registers[2], store.keyBytes)) {
                return false;
            }
            byte[] keyArea = area;
            int keyFrom = areaAt;
            if (program.field == FIND) {
                long i = store.entryOf(keyArea, keyFrom);
                registers[0] = i == NONE ? 0 : baseOf(AREA_VALUES + (int) mapNumber) + (i << ENTRY_SHIFT);
            } else if (program.field == DELETE) {
                registers[0] = store.delete(keyArea, keyFrom);
            } else {
                if (!locate(registers[3], store.valueBytes)) {
                    return false;
                }
                registers[0] = store.update(keyArea, keyFrom, area, areaAt);
            }
            return true;
        }
    }

    /** The checks of mode 0: what each instruction uses is looked at as it is then. */
    private static final class Checks {
        private final Code code;
        private final Store[] stores;
        /** Of its numbers and places nothing is used: a run has them itself. */
        private final State state = new State();
        private final Cell[] cells = state.cells;

        Checks(Code itsCode, Store[] itsStores) {
            code = itsCode;
            stores = itsStores;
        }

        void begin() {
            state.atFirst();
        }

        /** What FIND gave is a value or the number 0: it is seen at once which. */
        void find(boolean isFound) {
            cells[0].kind = isFound ? VALUE : NUMBER;
        }

        /** Looks at the instruction that code looks at, and notes the kinds that it leaves. */
        boolean allows(long[] registers) {
            boolean isToBare = code.readsTo && cells[code.to].kind == BARE;
            if (isToBare || code.readsFrom && cells[code.from].kind == BARE) {
                return false;
            }
            switch (code.family) {
                case WIDE:
                    cells[code.to].kind = code.from == 0 ? NUMBER : MAP;
                    return true;
                case ARITHMETIC:
                    return allowsArithmetic();
                case RELATION:
                    return allowsRelation(registers);
                case CALL:
                    return allowsCall(registers);
                case EXIT:
                    return cells[0].kind == NUMBER;
                case JUMP:
                    return true;
                default:
                    return allowsMemory(registers);
            }
        }

        private int operandKind() {
            return code.readsFrom ? cells[code.from].kind : NUMBER;
        }

        private boolean allowsArithmetic() {
            Cell to = cells[code.to];
            int by = operandKind();
            if (code.operation == MOVE) {
                to.kind = by;
                return by == NUMBER || !code.isNarrow;
            }
            if (to.kind == NUMBER && by == NUMBER) {
                return true;
            }
            if (code.isNarrow || code.operation > SUBTRACT) {
                return false;
            }
            if (by == NUMBER) {
                return to.isPointer();
            }
            Cell from = cells[code.from];
            boolean isSum = code.operation == ADD && to.kind == NUMBER && from.isPointer();
            boolean isDistance = code.operation == SUBTRACT && to.isOfPacket() && from.isOfPacket();
            to.kind = isSum ? by : NUMBER;
            return isSum || isDistance;
        }

        private boolean allowsRelation(long[] registers) {
            int kind = cells[code.to].kind;
            int by = operandKind();
            if (kind == NUMBER && by == NUMBER) {
                return true;
            }
            if (code.isNarrow) {
                return false;
            }
            if (code.operation == SAME || code.operation == NOT_SAME) {
                long number = code.readsFrom ? registers[code.from] : code.field;
                return kind == VALUE && by == NUMBER && number == 0
                    || kind == NUMBER && by == VALUE && registers[code.to] == 0;
            }
            boolean isOrder = code.operation == ABOVE || code.operation == NOT_BELOW
                || code.operation == BELOW || code.operation == NOT_ABOVE;
            return isOrder && (kind == PACKET && by == END || kind == END && by == PACKET);
        }

        private boolean allowsMemory(long[] registers) {
            boolean isLoad = code.family == LOAD;
            int pointer = isLoad ? code.from : code.to;
            int kind = cells[pointer].kind;
            long place = registers[pointer] + code.offset;
            if (kind == STACK) {
                return allowsStack(place - baseOf(AREA_STACK));
            }
            if (kind == CONTEXT) {
                return isLoad && allowsContext(place - baseOf(AREA_CONTEXT));
            }
            boolean isRight = kind == VALUE || kind == PACKET && code.family != ADD_TO;
            if (isLoad) {
                cells[code.to].kind = NUMBER;
            }
            return isRight && (isLoad || operandKind() == NUMBER);
        }

        private boolean allowsContext(long place) {
            if (place < 0 || place + code.bytes > CONTEXT_BYTES || place % code.bytes != 0) {
                return false;
            }
            cells[code.to].kind = place >= 16 ? NUMBER : place == 0 ? PACKET : END;
            return place >= 16 || code.bytes == 8;
        }

        private boolean allowsStack(long place) {
            if (place < -STACK_BYTES || place + code.bytes > 0 || place % code.bytes != 0) {
                return false;
            }
            Cell slot = state.slotAt((int) place);
            int touched = code.bytesAt((int) place);
            boolean isWhole = code.bytes == 8;
            if (code.family == LOAD) {
                cells[code.to].kind = isWhole && slot.kind != BARE ? slot.kind : NUMBER;
                return isWhole && slot.kind != BARE || slot.isReadable(touched);
            }
            boolean isNumber = operandKind() == NUMBER;
            if (!isNumber && (!isWhole || code.family == ADD_TO) || code.family == ADD_TO && !slot.isReadable(touched)) {
                return false;
            }
            if (isWhole) {
                slot.kind = operandKind();
                slot.written = 0;
            } else {
                slot.storeBytes(touched);
            }
            return true;
        }

        private boolean allowsCall(long[] registers) {
            boolean isRight = areArguments(registers);
            for (int i = 1; i <= 5; i++) {
                cells[i].kind = BARE;
            }
            cells[0].kind = NUMBER;
            return isRight;
        }

        private boolean areArguments(long[] registers) {
            switch (code.field) {
                case CLOCK:
                    return true;
                case TELL:
                    return cells[1].kind == NUMBER;
                case MIX:
                    return cells[2].kind == NUMBER && canRead(1, registers[1], registers[2]);
                default:
                    break;
            }
            long mapNumber = registers[1];
            if (cells[1].kind != MAP || mapNumber < 0 || mapNumber >= MOST_MAPS || stores[(int) mapNumber] == null) {
                return false;
            }
            Store store = stores[(int) mapNumber];
            return canRead(2, registers[2], store.keyBytes)
                && (code.field != UPDATE || canRead(3, registers[3], store.valueBytes));
        }

        private boolean canRead(int register, long address, long bytes) {
            int kind = cells[register].kind;
            if (kind != STACK) {
                return kind == PACKET || kind == VALUE;
            }
            long place = address - baseOf(AREA_STACK);
            if (bytes < 0 || bytes > MOST_MIXED || place < -STACK_BYTES || place + bytes > 0) {
                return false;
            }
            for (int i = (int) place; i < place + bytes; i++) {
                if (!state.slotAt(i).isReadable(1 << (i & 7))) {
                    return false;
                }
            }
            return true;
        }
    }

    private static long baseOf(int area) {
        return (long) area << AREA_SHIFT;
    }

    /** A pointer may lie ahead of its area: half an area belongs to the next one's base. */
    private static int areaOf(long address) {
        return (int) (address + (1L << AREA_SHIFT - 1) >> AREA_SHIFT);
    }
}
