/** Promise 4, sections C and D: the edges of places, MORE, ROOM, memory and arguments, each from both sides. */
public final class StepEdgeTest {
    private static final Checker CHECK = new Checker("StepEdgeTest");
    private static final int ADD = Assembly.ADD;
    private static final int SUBTRACT = Assembly.SUBTRACT;
    private static final int[] SIZES = {1, 2, 4, 8};
    private static final int VALUE_BYTES = 11;

    private StepEdgeTest() {
    }

    public static void main(String[] args) {
        atFirst();
        nothingIsWritten();
        exactPlaces();
        exactPlacesOfRegisters();
        numbersForMore();
        sumsForMore();
        sumsOfNoPointer();
        rooms();
        roomsGrow();
        contextPlaces();
        stackPlaces();
        offsets();
        packetPlaces();
        valuePlaces();
        writtenBytes();
        savedSlots();
        addToBytes();
        mixedBytes();
        readableStack();
        readableStackBytes();
        readableOthers();
        keysAndValues();
        behindCalls();
        exits();
        CHECK.end();
    }

    private static Assembly a() {
        return new Assembly();
    }

    /** Explores with an ARRAY (0) of values of 11 bytes, and a TABLE (1) of keys of 3 and values of 5 bytes; fault 0 is none. */
    private static void due(String what, Assembly program, int fault) {
        FilterGuard guard = new FilterGuard();
        guard.map(0, 4, VALUE_BYTES, 4);
        guard.map(1, 3, 5, 4);
        CHECK.due(what, program.program(guard), fault);
    }

    private static void due(String what, Assembly program, int fault, int slot) {
        FilterGuard guard = new FilterGuard();
        guard.map(0, 4, VALUE_BYTES, 4);
        guard.map(1, 3, 5, 4);
        CHECK.due(what, program.program(guard), fault);
        CHECK.due(what + ": its slot", guard.about(1), slot);
    }

    private static Assembly both(Assembly first, Assembly second) {
        for (int i = 0; i < second.size(); i++) {
            first.raw(second.word(i));
        }
        return first;
    }

    private static void atFirst() {
        for (int register = 0; register <= 10; register++) {
            boolean isThere = register == 1 || register == 10;
            due("register " + register + " at first", a().copy(2, register).leave(0), isThere ? 0 : 10);
        }
        due("1 is CONTEXT at 0", a().load(8, 0, 1, 56).exit(), 0);
        due("1 is CONTEXT at 0, not further", a().load(8, 0, 1, 64).exit(), 14);
        due("10 is STACK at 0", a().storeField(8, 10, -512, 0).leave(0), 0);
        due("10 is STACK at 0, not lower", a().storeField(8, 10, 0, 0).leave(0), 14);
    }

    private static void nothingIsWritten() {
        for (int place = -512; place < 0; place++) {
            due("byte " + place + " at first", a().load(1, 0, 10, place).exit(), 15);
        }
        for (int slot = -512; slot < 0; slot += 8) {
            due("slot " + slot, a().storeField(8, 10, slot, 7).load(8, 0, 10, slot).exit(), 0);
            if (slot < -8) {
                due("the slot above " + slot, a().storeField(8, 10, slot, 7).load(1, 0, 10, slot + 8).exit(), 15);
            }
            if (slot > -512) {
                due("the slot below " + slot, a().storeField(8, 10, slot, 7).load(1, 0, 10, slot - 1).exit(), 15);
            }
        }
    }

    /** Register 6 is a pointer of a kind at 0: CONTEXT, STACK, PACKET, VALUE. */
    private static Assembly pointer(int kind) {
        if (kind == 2 || kind == 3) {
            return a().copy(6, kind == 2 ? 1 : 10);
        }
        return kind == 4 ? a().load(8, 6, 1, 0) : value();
    }

    /** Register 6 is a VALUE of map 0, register 9 CONTEXT; nine slots. */
    private static Assembly value() {
        return a().copy(9, 1).storeField(4, 10, -4, 0).mapTo(1, 0).copy(2, 10).field(ADD, 2, -4).call(1).ifField(Assembly.NOT_SAME, 0, 0, 1).exit()
            .copy(6, 0);
    }

    private static final int[] KINDS = {2, 3, 4, 7};

    private static void exactPlaces() {
        int[][] cases = {{0, 65535, 0}, {0, 65536, 11}, {0, -65535, 0}, {0, -65536, 11}, {1, 65534, 0}, {1, 65535, 11}, {-1, 65535, 0}, {-1, 65536, 11},
            {-1, -65534, 0}, {-1, -65535, 11}, {1, -65535, 0}, {1, -65536, 11}, {65535, 0, 0}, {65535, 1, 11}, {-65535, 0, 0}, {-65535, -1, 11},
            {65535, -65535, 0}, {-65535, 65535, 0}, {0, Integer.MAX_VALUE, 11}, {0, Integer.MIN_VALUE, 11}};
        for (int kind : KINDS) {
            for (int[] c : cases) {
                String what = "kind " + kind + " at " + c[0] + " and " + c[1];
                due(what, pointer(kind).field(ADD, 6, c[0]).field(ADD, 6, c[1]).leave(0), c[2]);
                if (c[1] != Integer.MIN_VALUE) {
                    due(what + ", by SUBTRACT", pointer(kind).field(SUBTRACT, 6, -c[0]).field(SUBTRACT, 6, -c[1]).leave(0), c[2]);
                }
                due(what + ", by FROM", pointer(kind).field(ADD, 6, c[0]).move(7, c[1]).from(ADD, 6, 7).leave(0), c[2]);
                due(what + ", to a number", pointer(kind).field(ADD, 6, c[0]).move(7, c[1]).from(ADD, 7, 6).leave(0), c[2]);
            }
        }
    }

    private static void exactPlacesOfRegisters() {
        for (long c : new long[] {Long.MIN_VALUE, Long.MAX_VALUE, 1L << 32, (1L << 32) + 16, -(1L << 32), 0xFFFFFFFFL, 65536, -65536}) {
            due("ADD of " + c, a().wide(2, c).from(ADD, 1, 2).leave(0), 11);
            due("ADD to " + c, a().wide(2, c).from(ADD, 2, 1).leave(0), 11);
            due("SUBTRACT of " + c, a().wide(2, c).from(SUBTRACT, 1, 2).leave(0), 11);
        }
        due("the place behind both ways", a().field(ADD, 1, 65535).field(SUBTRACT, 1, 65519).load(8, 0, 1, 0).exit(), 0);
        due("SUBTRACT of -65535", a().field(SUBTRACT, 1, -65535).leave(0), 0);
        due("SUBTRACT of -65536", a().field(SUBTRACT, 1, -65536).leave(0), 11);
        due("SUBTRACT of 65535", a().field(SUBTRACT, 1, 65535).leave(0), 0);
        due("SUBTRACT of 65536", a().field(SUBTRACT, 1, 65536).leave(0), 11);
    }

    /** Register 7 is [0, greatest] by what a relation tells of 4 bytes of CONTEXT (register 9). */
    private static Assembly upTo(int greatest) {
        return a().load(4, 7, 9, 16).ifField(Assembly.NOT_ABOVE, 7, greatest, 2).leave(0);
    }

    private static Assembly moving(int kind) {
        return kind == 4 ? a().copy(9, 1).load(8, 6, 1, 0) : value();
    }

    private static void numbersForMore() {
        for (int kind : new int[] {4, 7}) {
            due("[0, 65535] and kind " + kind, both(moving(kind), upTo(65535)).from(ADD, 6, 7).leave(0), 0);
            due("[0, 65536] and kind " + kind, both(moving(kind), upTo(65536)).from(ADD, 6, 7).leave(0), 11);
            due("kind " + kind + " and [0, 65535]", both(moving(kind), upTo(65535)).from(ADD, 7, 6).leave(0), 0);
            due("kind " + kind + " and [0, 65536]", both(moving(kind), upTo(65536)).from(ADD, 7, 6).leave(0), 11);
            due("[0, 1] from kind " + kind, both(moving(kind), upTo(1)).from(SUBTRACT, 6, 7).leave(0), 11);
            due("less than 0", moving(kind).load(1, 7, 9, 16).field(SUBTRACT, 7, 1).from(ADD, 6, 7).leave(0), 11);
            due("[65534, 65535]", moving(kind).load(1, 7, 9, 16).field(Assembly.AND, 7, 1).field(ADD, 7, 65534).from(ADD, 6, 7).leave(0), 0);
            due("[65535, 65536]", moving(kind).load(1, 7, 9, 16).field(Assembly.AND, 7, 1).field(ADD, 7, 65535).from(ADD, 6, 7).leave(0), 11);
        }
        for (int kind : new int[] {2, 3}) {
            Assembly known = a().load(1, 7, 1, 16).field(Assembly.AND, 7, 0);
            due("[0, 0] and kind " + kind, both(known, pointer(kind)).from(ADD, 6, 7).leave(0), 0);
            due("[0, 1] and kind " + kind, both(a().load(1, 7, 1, 16).field(Assembly.AND, 7, 1), pointer(kind)).from(ADD, 6, 7).leave(0), 11);
            due("kind " + kind + " and [0, 1]", both(a().load(1, 7, 1, 16).field(Assembly.AND, 7, 1), pointer(kind)).from(ADD, 7, 6).leave(0), 11);
        }
    }

    private static void sumsForMore() {
        for (int kind : new int[] {4, 7}) {
            Assembly just = both(moving(kind), upTo(65535 - 255)).from(ADD, 6, 7);
            due("MORE up to 65535, kind " + kind, just.load(1, 8, 9, 16).from(ADD, 6, 8).leave(0), 0);
            Assembly over = both(moving(kind), upTo(65536 - 255)).from(ADD, 6, 7);
            due("MORE up to 65536, kind " + kind, over.load(1, 8, 9, 16).from(ADD, 6, 8).leave(0), 11);
            Assembly turned = both(moving(kind), upTo(65535 - 255)).from(ADD, 6, 7);
            due("MORE up to 65535 to a number, kind " + kind, turned.load(1, 8, 9, 16).from(ADD, 8, 6).leave(0), 0);
            Assembly turnedOver = both(moving(kind), upTo(65536 - 255)).from(ADD, 6, 7);
            due("MORE up to 65536 to a number, kind " + kind, turnedOver.load(1, 8, 9, 16).from(ADD, 8, 6).leave(0), 11);
            Assembly place = both(moving(kind), upTo(65535)).from(ADD, 6, 7);
            due("a place is no MORE, kind " + kind, place.field(ADD, 6, 65535).leave(0), 0);
        }
    }

    /** END, MAP and MAYBE are no POINTERS, in either order. */
    private static void sumsOfNoPointer() {
        Assembly maybe = a().storeField(4, 10, -4, 0).mapTo(1, 0).copy(2, 10).field(ADD, 2, -4).call(1).copy(6, 0);
        Assembly[] others = {a().load(8, 6, 1, 8), a().mapTo(6, 0), maybe};
        for (Assembly other : others) {
            for (int k : new int[] {ADD, SUBTRACT}) {
                due("no POINTER and a number", again(other).field(k, 6, 1).leave(0), 11);
                due("no POINTER and FROM", again(other).move(7, 1).from(k, 6, 7).leave(0), 11);
                due("a number and no POINTER", again(other).move(7, 1).from(k, 7, 6).leave(0), 11);
                due("a number not EXACT and no POINTER", both(a().load(1, 7, 1, 16), other).from(k, 7, 6).leave(0), 11);
            }
        }
        for (int kind : KINDS) {
            due("a pointer from a number", pointer(kind).move(7, 1).from(SUBTRACT, 7, 6).leave(0), 11);
            due("two pointers", pointer(kind).from(ADD, 6, 6).leave(0), 11);
            due("a narrow sum", pointer(kind).narrowField(ADD, 6, 1).leave(0), 11);
            due("a narrow MOVE", pointer(kind).narrowFrom(Assembly.MOVE, 7, 6).leave(0), 11);
            due("a wide MOVE", pointer(kind).copy(7, 6).leave(0), 0);
        }
    }

    /** 6 is PACKET, 7 END, 8 the PACKET some bytes on; the slots behind are those of a relation of 8 and 7, or turned. */
    private static Assembly compared(int place, int k, boolean isTurned, boolean isGone, Assembly then) {
        Assembly program = a().load(8, 6, 1, 0).load(8, 7, 1, 8).copy(8, 6).field(ADD, 8, place);
        int offset = isGone ? 2 : then.size() + 2;
        program = isTurned ? program.ifFrom(k, 7, 8, offset) : program.ifFrom(k, 8, 7, offset);
        return both(isGone ? program.leave(0) : program, then).leave(0).leave(0);
    }

    /** How many bytes are there for sure: the PACKET's place if it is not above END, one more if it is below. */
    private static int room(int place, int k, boolean isTurned, boolean isGone) {
        boolean isBelowOrAbove = k == Assembly.BELOW || k == Assembly.ABOVE;
        boolean isOfEndAbove = k == Assembly.BELOW || k == Assembly.NOT_ABOVE;
        boolean isPacketLower = isOfEndAbove != isTurned == isGone;
        boolean isStrict = isBelowOrAbove == isGone;
        return isPacketLower ? place + (isStrict ? 1 : 0) : 0;
    }

    private static void rooms() {
        for (int k : new int[] {Assembly.ABOVE, Assembly.NOT_BELOW, Assembly.BELOW, Assembly.NOT_ABOVE}) {
            for (int way = 0; way < 4; way++) {
                boolean isTurned = way > 1;
                boolean isGone = way % 2 == 1;
                int room = room(4, k, isTurned, isGone);
                String what = "relation " + k + (isTurned ? ", turned" : "") + (isGone ? ", goes" : ", falls");
                for (int place = -1; place <= 7; place++) {
                    boolean isThere = place >= 0 && place < room;
                    due(what + ": byte " + place, compared(4, k, isTurned, isGone, a().load(1, 0, 6, place)), isThere ? 0 : 14);
                }
            }
        }
    }

    private static void roomsGrow() {
        Assembly less = a().load(8, 6, 1, 0).load(8, 7, 1, 8).copy(8, 6).field(ADD, 8, 4).ifFrom(Assembly.NOT_ABOVE, 8, 7, 2).leave(0);
        due("less room takes none away", both(again(less), a().field(SUBTRACT, 8, 1).ifFrom(Assembly.NOT_ABOVE, 8, 7, 2).leave(0))
            .load(4, 0, 6, 0).leave(0), 0);
        due("more room is more", both(again(less), a().field(ADD, 8, 1).ifFrom(Assembly.NOT_ABOVE, 8, 7, 2).leave(0)).load(1, 0, 6, 4).leave(0), 0);
        due("and no more than that", both(again(less), a().field(ADD, 8, 1).ifFrom(Assembly.NOT_ABOVE, 8, 7, 2).leave(0)).load(1, 0, 6, 5).leave(0), 14);
        Assembly ahead = a().load(8, 6, 1, 0).load(8, 7, 1, 8).copy(8, 6).field(ADD, 8, -1);
        due("a place ahead takes none away", both(again(ahead), a().ifFrom(Assembly.NOT_ABOVE, 8, 7, 2).leave(0)).copy(1, 6).move(2, 0).call(6).exit(), 0);
        due("a place ahead that is below gives none", both(again(ahead), a().ifFrom(Assembly.BELOW, 8, 7, 2).leave(0)).load(1, 0, 6, 0).leave(0), 14);
        Assembly zero = a().load(8, 6, 1, 0).load(8, 7, 1, 8);
        due("place 0 that is below gives one", both(again(zero), a().ifFrom(Assembly.BELOW, 6, 7, 2).leave(0)).load(1, 0, 6, 0).leave(0), 0);
        due("place 0 that is not above gives none", both(again(zero), a().ifFrom(Assembly.NOT_ABOVE, 6, 7, 2).leave(0)).load(1, 0, 6, 0).leave(0), 14);
        due("the greatest place", a().load(8, 6, 1, 0).load(8, 7, 1, 8).copy(8, 6).field(ADD, 8, 65535).ifFrom(Assembly.BELOW, 8, 7, 2).leave(0)
            .load(1, 0, 8, 0).leave(0), 0);
        due("two bytes at the greatest place", a().load(8, 6, 1, 0).load(8, 7, 1, 8).copy(8, 6).field(ADD, 8, 65535).ifFrom(Assembly.BELOW, 8, 7, 2)
            .leave(0).load(2, 0, 8, 0).leave(0), 14);
        Assembly moved = a().copy(9, 1).load(8, 6, 1, 0).load(8, 7, 1, 8).load(1, 5, 1, 16).copy(8, 6).from(ADD, 8, 5);
        due("ROOM of a new identity is 0", both(again(moved), a().load(1, 0, 8, 0)).leave(0), 14);
        due("a new identity's ROOM is its own", both(again(moved), a().field(ADD, 8, 2).ifFrom(Assembly.NOT_ABOVE, 8, 7, 2).leave(0))
            .load(1, 0, 6, 0).leave(0), 14);
        due("a new identity's ROOM", both(again(moved), a().field(ADD, 8, 2).ifFrom(Assembly.NOT_ABOVE, 8, 7, 2).leave(0)).load(2, 0, 8, -2).leave(0), 0);
        due("a byte ahead of it", both(again(moved), a().field(ADD, 8, 2).ifFrom(Assembly.NOT_ABOVE, 8, 7, 2).leave(0)).load(1, 0, 8, -3).leave(0), 14);
        Assembly other = a().copy(4, 6).from(ADD, 4, 5);
        Assembly gone = a().load(8, 6, 1, 0).load(8, 7, 1, 8).load(1, 5, 1, 16).copy(8, 6).field(ADD, 8, 8).ifFrom(Assembly.NOT_ABOVE, 8, 7, 2).leave(0);
        due("what is told of one is not of another that goes", both(both(again(gone), other), a().ifFrom(Assembly.ABOVE, 4, 7, 2).leave(0))
            .load(1, 0, 4, 0).leave(0), 14);
        Assembly fallen = a().load(8, 6, 1, 0).load(8, 7, 1, 8).load(1, 5, 1, 16).copy(8, 6).field(ADD, 8, 8).ifFrom(Assembly.ABOVE, 8, 7, 1).jump(2).leave(0);
        due("what is told of one is not of another that falls", both(both(again(fallen), other), a().ifFrom(Assembly.NOT_ABOVE, 4, 7, 1).jump(2).leave(0))
            .load(1, 0, 4, 0).leave(0), 14);
        due("an EXACT number keeps identity and ROOM", both(again(less), a().move(5, 2).from(ADD, 6, 5)).load(2, 0, 6, 0).leave(0), 0);
        due("LOAD of CONTEXT again has no ROOM", both(again(less), a().load(8, 5, 1, 0)).load(1, 0, 5, 0).leave(0), 14);
        due("LOAD of CONTEXT again to where ROOM was", both(again(less), a().load(8, 6, 1, 0)).load(1, 0, 6, 0).leave(0), 14);
        due("LOAD of CONTEXT to where another identity was", both(again(moved), a().load(8, 8, 9, 0).copy(4, 6).field(ADD, 4, 3)
            .ifFrom(Assembly.NOT_ABOVE, 4, 7, 2).leave(0)).load(2, 0, 8, 1).leave(0), 0);
        due("LOAD of CONTEXT to where a MORE was", both(again(moved), a().load(8, 8, 9, 0).field(ADD, 8, 3).ifFrom(Assembly.NOT_ABOVE, 8, 7, 2).leave(0))
            .load(2, 0, 6, 1).leave(0), 0);
    }

    private static Assembly again(Assembly program) {
        return both(a(), program);
    }

    private static void contextPlaces() {
        for (int bytes : SIZES) {
            for (int place = -9; place <= 65; place++) {
                boolean isInside = place >= 0 && place + bytes <= 64 && place % bytes == 0;
                boolean isPointer = place < 16 && bytes == 8;
                boolean isFine = isInside && (place >= 16 || isPointer);
                due(bytes + " bytes of CONTEXT at " + place, a().load(bytes, 2, 1, place).leave(0), isFine ? 0 : 14);
                due(bytes + " bytes of CONTEXT moved to " + place, a().field(ADD, 1, place - 5).load(bytes, 2, 1, 5).leave(0), isFine ? 0 : 14);
                due("a number of it", a().load(bytes, 0, 1, place).exit(), !isFine ? 14 : isPointer ? 18 : 0);
            }
        }
    }

    private static void stackPlaces() {
        for (int bytes : SIZES) {
            for (int place = -521; place <= 9; place++) {
                if (place < -500 || place > -20) {
                    boolean isFine = place >= -512 && place + bytes <= 0 && place % bytes == 0;
                    due("STORE FIELD of " + bytes + " bytes at " + place, a().storeField(bytes, 10, place, 1).leave(0), isFine ? 0 : 14);
                    due("STORE of " + bytes + " bytes at " + place, a().move(2, 1).store(bytes, 10, place, 2).leave(0), isFine ? 0 : 14);
                    due("LOAD of " + bytes + " bytes at " + place, a().load(bytes, 2, 10, place).leave(0), isFine ? 15 : 14);
                    due("STORE of a pointer of " + bytes + " bytes at " + place, a().store(bytes, 10, place, 1).leave(0),
                        !isFine ? 14 : bytes == 8 ? 0 : 16);
                }
            }
        }
    }

    /** The place and the least or greatest OFFSET together are what counts. */
    private static void offsets() {
        for (int place = -1; place <= 1; place++) {
            boolean isFine = place < 0;
            due("the least OFFSET to " + place, a().copy(2, 10).field(ADD, 2, 32768 + place).storeField(1, 2, -32768, 1).leave(0), isFine ? 0 : 14);
            due("the greatest OFFSET to " + place, a().copy(2, 10).field(ADD, 2, place - 32767).storeField(1, 2, 32767, 1).leave(0), isFine ? 0 : 14);
        }
        for (int place = -514; place <= -511; place++) {
            boolean isFine = place >= -512;
            due("the least OFFSET to " + place, a().copy(2, 10).field(ADD, 2, 32768 + place).storeField(1, 2, -32768, 1).leave(0), isFine ? 0 : 14);
            due("the greatest OFFSET to " + place, a().copy(2, 10).field(ADD, 2, place - 32767).storeField(1, 2, 32767, 1).leave(0), isFine ? 0 : 14);
        }
        due("the greatest place and OFFSET", a().field(ADD, 1, 65535).load(1, 0, 1, 32767).exit(), 14);
        due("the least place and OFFSET", a().field(ADD, 1, -65535).load(1, 0, 1, -32768).exit(), 14);
    }

    private static void packetPlaces() {
        for (int bytes : SIZES) {
            for (int place = -2; place <= 10; place++) {
                boolean isFine = place >= 0 && place + bytes <= 9;
                due("LOAD of " + bytes + " bytes at " + place, compared(9, Assembly.NOT_ABOVE, false, true, a().load(bytes, 0, 6, place)), isFine ? 0 : 14);
                due("STORE FIELD of " + bytes + " bytes at " + place, compared(9, Assembly.NOT_ABOVE, false, true, a().storeField(bytes, 6, place, 1)),
                    isFine ? 0 : 14);
                due("STORE of a pointer of " + bytes + " bytes at " + place, compared(9, Assembly.NOT_ABOVE, false, true, a().store(bytes, 6, place, 10)),
                    isFine ? 16 : 14);
                due("the same from behind", compared(9, Assembly.NOT_ABOVE, false, true, a().load(bytes, 0, 8, place - 9)), isFine ? 0 : 14);
            }
        }
        due("ADD TO of the packet", compared(9, Assembly.NOT_ABOVE, false, true, a().move(2, 1).addTo(4, 6, 0, 2)), 14);
    }

    private static void valuePlaces() {
        for (int bytes : SIZES) {
            for (int place = -4; place <= 13; place++) {
                boolean isFine = place >= 0 && place + bytes <= VALUE_BYTES;
                due("LOAD of " + bytes + " bytes at " + place, value().load(bytes, 0, 6, place).leave(0), isFine ? 0 : 14);
                due("STORE FIELD of " + bytes + " bytes at " + place, value().storeField(bytes, 6, place, 1).leave(0), isFine ? 0 : 14);
                due("STORE of a pointer of " + bytes + " bytes at " + place, value().store(bytes, 6, place, 10).leave(0), isFine ? 16 : 14);
                if (bytes >= 4) {
                    due("ADD TO of " + bytes + " bytes at " + place, value().move(2, 1).addTo(bytes, 6, place, 2).leave(0), isFine ? 0 : 14);
                    due("ADD TO of a pointer", value().addTo(bytes, 6, place, 10).leave(0), isFine ? 16 : 14);
                }
                boolean isFineMoved = place + 1 >= 0 && place + 4 + bytes <= VALUE_BYTES;
                due("LOAD of " + bytes + " bytes at " + place + " and 1 .. 4", value().load(1, 7, 9, 16).field(Assembly.AND, 7, 3).field(ADD, 7, 1)
                    .from(ADD, 6, 7).load(bytes, 0, 6, place).leave(0), isFineMoved ? 0 : 14);
            }
        }
    }

    /** Some bytes of a slot are written: just they can be loaded. */
    private static void writtenBytes() {
        for (int bytes : SIZES) {
            for (int place = -16; place < -8; place += bytes) {
                for (int loaded : SIZES) {
                    for (int from = -16; from < -8; from += loaded) {
                        boolean isWritten = from >= place && from + loaded <= place + bytes;
                        due(bytes + " bytes written at " + place + ", " + loaded + " loaded at " + from,
                            a().storeField(bytes, 10, place, 1).load(loaded, 0, 10, from).exit(), isWritten ? 0 : 15);
                    }
                }
            }
        }
    }

    /** A slot is saved, then some bytes are stored: of a number all are written then, of another kind only those. */
    private static void savedSlots() {
        for (int bytes : new int[] {1, 2, 4}) {
            for (int place = -16; place < -8; place += bytes) {
                for (int loaded : SIZES) {
                    for (int from = -16; from < -8; from += loaded) {
                        String what = bytes + " bytes at " + place + ", " + loaded + " loaded at " + from;
                        boolean isWritten = from >= place && from + loaded <= place + bytes;
                        due("a number, " + what, a().storeField(8, 10, -16, 1).storeField(bytes, 10, place, 1).load(loaded, 0, 10, from).exit(), 0);
                        due("a pointer, " + what, a().store(8, 10, -16, 1).storeField(bytes, 10, place, 1).load(loaded, 0, 10, from).exit(),
                            isWritten ? 0 : 15);
                    }
                }
                due("a part of a saved pointer", a().store(8, 10, -16, 1).load(bytes, 0, 10, place).exit(), 15);
                due("a part of a saved END", a().load(8, 2, 1, 8).store(8, 10, -16, 2).load(bytes, 0, 10, place).exit(), 15);
                due("a part of a saved MAP", a().mapTo(2, 0).store(8, 10, -16, 2).load(bytes, 0, 10, place).exit(), 15);
                due("a part of a saved number", a().storeField(8, 10, -16, 1).load(bytes, 0, 10, place).exit(), 0);
            }
        }
        due("8 bytes of a saved pointer", a().store(8, 10, -16, 1).load(8, 2, 10, -16).load(8, 0, 2, 16).exit(), 0);
        due("8 bytes of a saved number are EXACT", a().storeField(8, 10, -16, 16).load(8, 2, 10, -16).from(ADD, 1, 2).load(8, 0, 1, 0).exit(), 0);
        due("8 bytes that are written are not", a().storeField(4, 10, -16, 16).storeField(4, 10, -12, 0).load(8, 2, 10, -16).from(ADD, 1, 2).leave(0), 11);
    }

    private static void addToBytes() {
        for (int bytes : new int[] {4, 8}) {
            for (int place = -520; place <= 8; place += bytes / 2) {
                boolean isFine = place >= -512 && place + bytes <= 0 && place % bytes == 0;
                due("ADD TO of " + bytes + " bytes at " + place, a().move(2, 1).addTo(bytes, 10, place, 2).leave(0), isFine ? 15 : 14);
                due("ADD TO of a pointer, " + bytes + " bytes at " + place, a().addTo(bytes, 10, place, 1).leave(0), isFine ? 16 : 14);
            }
        }
        due("of 8 bytes that are saved", a().move(2, 1).storeField(8, 10, -8, 1).addTo(8, 10, -8, 2).load(8, 0, 10, -8).exit(), 0);
        due("of 8 bytes, 7 are written", a().move(2, 1).storeField(4, 10, -8, 1).storeField(2, 10, -4, 1).storeField(1, 10, -2, 1).addTo(8, 10, -8, 2)
            .leave(0), 15, 4);
        due("of 8 bytes that are written", a().move(2, 1).storeField(4, 10, -8, 1).storeField(4, 10, -4, 1).addTo(8, 10, -8, 2).load(8, 0, 10, -8).exit(), 0);
        due("of 4 bytes, 4 others are written", a().move(2, 1).storeField(4, 10, -8, 1).addTo(4, 10, -4, 2).leave(0), 15, 2);
        due("of 4 bytes that are written", a().move(2, 1).storeField(4, 10, -4, 1).addTo(4, 10, -4, 2).load(4, 0, 10, -4).exit(), 0);
        due("the other 4 are not written by it", a().move(2, 1).storeField(4, 10, -4, 1).addTo(4, 10, -4, 2).load(4, 0, 10, -8).exit(), 15, 3);
        due("a saved pointer, 8 bytes", a().move(2, 1).store(8, 10, -8, 1).addTo(8, 10, -8, 2).leave(0), 16, 2);
        due("a saved pointer, 4 bytes", a().move(2, 1).store(8, 10, -8, 1).addTo(4, 10, -8, 2).leave(0), 15, 2);
        due("a sum is ANY", a().move(2, 8).storeField(8, 10, -8, 8).addTo(8, 10, -8, 2).load(8, 3, 10, -8).from(ADD, 1, 3).leave(0), 11, 4);
    }

    /** MIX of so many bytes, EXACT or at most, of a packet that has room for 600. */
    private static Assembly mix(int bytes, boolean isExact) {
        Assembly then = a().copy(9, 1).copy(1, 6);
        then = isExact ? then.move(2, bytes) : then.load(2, 2, 9, 16).ifField(Assembly.NOT_ABOVE, 2, bytes, 2).leave(0);
        return compared(600, Assembly.NOT_ABOVE, false, true, then.call(6).exit());
    }

    private static void mixedBytes() {
        due("MIX of 0", mix(0, true), 0);
        due("MIX of 511", mix(511, true), 0);
        due("MIX of 512", mix(512, true), 0);
        due("MIX of 513", mix(513, true), 17);
        due("MIX of -1", mix(-1, true), 17);
        due("MIX of up to 511", mix(511, false), 0);
        due("MIX of up to 512", mix(512, false), 0);
        due("MIX of up to 513", mix(513, false), 17);
        due("MIX of ANY", a().load(8, 2, 1, 16).copy(1, 10).call(6).exit(), 17);
        due("MIX of 2^32", a().wide(2, 1L << 32).copy(1, 10).call(6).exit(), 17);
        due("2 ahead of 1: 10 of 2", a().call(5).call(6).exit(), 10, 1);
        due("2 ahead of 1: 17 of 2, 1 is NONE", a().call(5).move(2, 513).call(6).exit(), 17, 2);
        due("then 10 of 1", a().call(5).move(2, 512).call(6).exit(), 10, 2);
        due("what MIX gives is no more than LOW", a().copy(1, 10).move(2, 0).call(6).wide(2, 0xFFFFFFFFL).ifFrom(Assembly.ABOVE, 0, 2, 1).exit()
            .load(1, 0, 10, 0).exit(), 0);
        due("what MIX gives may be LOW", a().copy(1, 10).move(2, 0).call(6).wide(2, 0xFFFFFFFEL).ifFrom(Assembly.ABOVE, 0, 2, 1).exit()
            .load(1, 0, 10, 0).exit(), 14);
        due("what MIX gives is not below 0", a().copy(1, 10).move(2, 0).call(6).ifField(Assembly.LESS, 0, 0, 1).exit().load(1, 0, 10, 0).exit(), 0);
    }

    private static void readableStack() {
        Assembly whole = a();
        for (int place = -512; place < 0; place += 8) {
            whole.storeField(8, 10, place, 1);
        }
        int[][] cases = {{-512, 512, 0}, {-512, 0, 0}, {-513, 0, 17}, {-513, 1, 17}, {0, 0, 0}, {1, 0, 17}, {0, 1, 17}, {-1, 1, 0}, {-1, 2, 17}, {-1, 0, 0},
            {-511, 511, 0}, {-511, 512, 17}, {-7, 7, 0}, {-7, 8, 17}};
        for (int[] c : cases) {
            due(c[1] + " bytes at " + c[0], again(whole).copy(1, 10).field(ADD, 1, c[0]).move(2, c[1]).call(6).exit(), c[2]);
        }
        due("nothing of a stack of which nothing is written", a().copy(1, 10).field(ADD, 1, -512).move(2, 0).call(6).exit(), 0);
    }

    /** One byte of two slots is not written, or is of a saved pointer. */
    private static void readableStackBytes() {
        for (int missing = -16; missing < 0; missing++) {
            Assembly written = a();
            for (int place = -16; place < 0; place++) {
                if (place != missing) {
                    written.storeField(1, 10, place, 1);
                }
            }
            for (int from = -16; from < 0; from += 3) {
                for (int bytes = 0; bytes <= -from; bytes++) {
                    boolean isRead = missing >= from && missing < from + bytes;
                    due("without byte " + missing + ", " + bytes + " at " + from,
                        again(written).copy(1, 10).field(ADD, 1, from).move(2, bytes).call(6).exit(), isRead ? 17 : 0);
                }
            }
        }
        Assembly mixed = a().storeField(8, 10, -24, 1).store(8, 10, -16, 1).storeField(4, 10, -8, 1).storeField(4, 10, -4, 1);
        due("a saved number", again(mixed).copy(1, 10).field(ADD, 1, -24).move(2, 8).call(6).exit(), 0);
        due("into a saved pointer", again(mixed).copy(1, 10).field(ADD, 1, -24).move(2, 9).call(6).exit(), 17);
        due("out of a saved pointer", again(mixed).copy(1, 10).field(ADD, 1, -9).move(2, 9).call(6).exit(), 17);
        due("behind a saved pointer", again(mixed).copy(1, 10).field(ADD, 1, -8).move(2, 8).call(6).exit(), 0);
    }

    private static void readableOthers() {
        for (int place = -1; place <= 5; place++) {
            for (int bytes = 0; bytes <= 5; bytes++) {
                boolean isFine = place >= 0 && place + bytes <= 4;
                due(bytes + " bytes of a packet's 4 at " + place,
                    compared(4, Assembly.NOT_ABOVE, false, true, a().copy(1, 6).field(ADD, 1, place).move(2, bytes).call(6)), isFine ? 0 : 17);
            }
        }
        for (int place = -1; place <= VALUE_BYTES + 1; place++) {
            for (int bytes = 0; bytes <= VALUE_BYTES + 1; bytes++) {
                boolean isFine = place >= 0 && place + bytes <= VALUE_BYTES;
                due(bytes + " bytes of a value at " + place, value().copy(1, 6).field(ADD, 1, place).move(2, bytes).call(6).exit(), isFine ? 0 : 17);
                boolean isFineMoved = place >= 0 && place + 3 + bytes <= VALUE_BYTES;
                due(bytes + " bytes of a value at " + place + " and 0 .. 3", value().load(1, 7, 9, 16).field(Assembly.AND, 7, 3).copy(1, 6).from(ADD, 1, 7)
                    .field(ADD, 1, place).move(2, bytes).call(6).exit(), isFineMoved ? 0 : 17);
            }
        }
        due("CONTEXT is not READABLE", a().move(2, 0).call(6).exit(), 17);
        due("a number is not", a().move(1, 0).move(2, 0).call(6).exit(), 17);
        due("END is not", a().load(8, 1, 1, 8).move(2, 0).call(6).exit(), 17);
        due("a MAP is not", a().mapTo(1, 0).move(2, 0).call(6).exit(), 17);
        due("0 bytes of a packet anywhere", a().load(2, 7, 1, 16).load(8, 1, 1, 0).from(ADD, 1, 7).move(2, 0).call(6).exit(), 0);
        due("1 byte of it", a().load(2, 7, 1, 16).load(8, 1, 1, 0).from(ADD, 1, 7).move(2, 1).call(6).exit(), 17);
    }

    /** Map 1 has keys of 3 bytes and values of 5: so many are written from -8 on. */
    private static Assembly written(int bytes, int from) {
        Assembly program = a();
        for (int i = 0; i < bytes; i++) {
            program.storeField(1, 10, from + i, 1);
        }
        return program;
    }

    private static Assembly called(int helper, int keyBytes, int valueBytes) {
        return both(written(keyBytes, -8), written(valueBytes, -16)).mapTo(1, 1).copy(2, 10).field(ADD, 2, -8).copy(3, 10).field(ADD, 3, -16)
            .call(helper).leave(0);
    }

    private static void keysAndValues() {
        for (int helper = 1; helper <= 3; helper++) {
            due("helper " + helper + ", a key of 3", called(helper, 3, 5), 0);
            due("helper " + helper + ", a key of 2", called(helper, 2, 5), 17);
            due("helper " + helper + ", a value of 4", called(helper, 3, 4), helper == 2 ? 17 : 0);
            due("helper " + helper + ", a key at -3", a().storeField(8, 10, -8, 1).copy(3, 10).field(ADD, 3, -8).mapTo(1, 1).copy(2, 10).field(ADD, 2, -3)
                .call(helper).leave(0), 0);
            due("helper " + helper + ", a key at -2", a().storeField(8, 10, -8, 1).copy(3, 10).field(ADD, 3, -8).mapTo(1, 1).copy(2, 10).field(ADD, 2, -2)
                .call(helper).leave(0), 17);
            for (int room = 2; room <= 3; room++) {
                Assembly then = a().storeField(8, 10, -8, 1).copy(2, 6).copy(3, 10).field(ADD, 3, -8).mapTo(1, 1).call(helper);
                due("helper " + helper + ", a key of a packet's " + room, compared(room, Assembly.NOT_ABOVE, false, true, then), room == 3 ? 0 : 17);
            }
        }
        due("an ARRAY's key of 4", a().storeField(4, 10, -4, 0).mapTo(1, 0).copy(2, 10).field(ADD, 2, -4).call(1).leave(0), 0);
        due("an ARRAY's key of 3", a().storeField(4, 10, -4, 0).mapTo(1, 0).copy(2, 10).field(ADD, 2, -3).call(1).leave(0), 17);
        for (int place = 0; place <= 7; place++) {
            due("a value's bytes at " + place + " as 5 bytes", value().mapTo(1, 1).storeField(8, 10, -16, 0).copy(2, 10).field(ADD, 2, -16).copy(3, 6)
                .field(ADD, 3, place).call(2).exit(), place <= 6 ? 0 : 17);
        }
        argumentOrder();
    }

    /** Which argument is NONE or wrong first: 10 or 17 by the first of them. */
    private static void argumentOrder() {
        for (int helper = 1; helper <= 3; helper++) {
            due("1 is NONE", a().call(5).call(helper).exit(), 10, 1);
            due("1 is NONE, 2 is wrong", a().call(5).move(2, 0).call(helper).exit(), 10, 2);
            due("1 is wrong, 2 is NONE", a().move(1, 0).call(helper).exit(), 17, 1);
            due("2 is NONE", a().mapTo(1, 1).call(helper).exit(), 10, 2);
            due("2 is NONE, 3 is wrong", a().mapTo(1, 1).move(3, 0).call(helper).exit(), 10, 3);
            due("2 is wrong, 3 is NONE", a().mapTo(1, 1).move(2, 0).call(helper).exit(), 17, 3);
            due("3 is NONE", a().storeField(8, 10, -8, 0).mapTo(1, 1).copy(2, 10).field(ADD, 2, -8).call(helper).leave(0), helper == 2 ? 10 : 0);
            due("3 is wrong", a().storeField(8, 10, -8, 0).mapTo(1, 1).copy(2, 10).field(ADD, 2, -8).move(3, 0).call(helper).leave(0), helper == 2 ? 17 : 0);
        }
        due("TELL of NONE", a().call(5).call(4).exit(), 10, 1);
        due("TELL of a pointer", a().call(4).exit(), 17, 0);
    }

    private static void behindCalls() {
        for (int register = 0; register <= 9; register++) {
            Assembly program = a();
            for (int i = 0; i <= 9; i++) {
                program.move(i, 16);
            }
            boolean isNone = register >= 1 && register <= 5;
            due("register " + register + " behind a CALL", program.call(5).copy(6, register).leave(0), isNone ? 10 : 0);
        }
        due("6 is what it was", a().move(6, 16).copy(7, 1).call(5).from(ADD, 7, 6).load(8, 0, 7, 0).exit(), 0);
        due("10 is what it was", a().call(5).storeField(8, 10, -8, 0).leave(0), 0);
        due("0 of TELL is EXACT 0", a().copy(6, 1).move(1, 5).call(4).from(ADD, 6, 0).load(8, 0, 6, 16).exit(), 0);
        due("0 of CLOCK is ANY", a().copy(6, 1).call(5).from(ADD, 6, 0).leave(0), 11);
    }

    private static void exits() {
        due("EXIT with NONE", a().exit(), 18);
        due("EXIT with a number", a().move(0, 0).exit(), 0);
        due("EXIT with ANY", a().load(8, 0, 1, 16).exit(), 0);
        due("EXIT with CONTEXT", a().copy(0, 1).exit(), 18);
        due("EXIT with STACK", a().copy(0, 10).exit(), 18);
        due("EXIT with PACKET", a().load(8, 0, 1, 0).exit(), 18);
        due("EXIT with END", a().load(8, 0, 1, 8).exit(), 18);
        due("EXIT with a MAP", a().mapTo(0, 0).exit(), 18);
        due("EXIT with a VALUE", value().copy(0, 6).exit(), 18);
        due("EXIT with a MAYBE", a().storeField(4, 10, -4, 0).mapTo(1, 0).copy(2, 10).field(ADD, 2, -4).call(1).exit(), 18);
    }
}
