/** Promise 4, section D: every instruction with every kind of TO and FROM, and helpers with every kind of argument. */
public final class KindTest {
    private static final Checker CHECK = new Checker("KindTest");
    private static final int ADD = Assembly.ADD;
    private static final int NONE = 0;
    private static final int NUMBER = 1;
    private static final int CONTEXT = 2;
    private static final int STACK = 3;
    private static final int PACKET = 4;
    private static final int END = 5;
    private static final int MAP = 6;
    private static final int VALUE = 7;
    private static final int MAYBE = 8;

    private KindTest() {
    }

    public static void main(String[] args) {
        arithmetic();
        oneOperand();
        relations();
        relationsWithNumbers();
        memory();
        stored();
        arguments();
        given();
        reads();
        bothWays();
        exits();
        CHECK.end();
    }

    private static Assembly a() {
        return new Assembly();
    }

    private static Assembly both(Assembly first, Assembly second) {
        for (int i = 0; i < second.size(); i++) {
            first.raw(second.word(i));
        }
        return first;
    }

    private static FilterGuard guard() {
        FilterGuard guard = new FilterGuard();
        guard.map(0, 4, 8, 4);
        guard.map(1, 4, 8, 4);
        return guard;
    }

    private static void due(String what, Assembly program, int fault) {
        CHECK.due(what, program.program(guard()), fault);
    }

    /** A register, 6 or 7, becomes of a kind; 9 is CONTEXT, and 0 a number then. A number is EXACT 0. */
    private static Assembly kind(int kind, int register) {
        switch (kind) {
            case NONE:
                return a();
            case NUMBER:
                return a().move(register, 0);
            case CONTEXT:
                return a().copy(register, 9);
            case STACK:
                return a().copy(register, 10);
            case PACKET:
                return a().load(8, register, 9, 0);
            case END:
                return a().load(8, register, 9, 8);
            case MAP:
                return a().mapTo(register, 0);
            default:
                Assembly found = a().storeField(4, 10, -4, 0).mapTo(1, 0).copy(2, 10).field(ADD, 2, -4).call(1);
                return (kind == VALUE ? found.ifField(Assembly.NOT_SAME, 0, 0, 1).exit() : found).copy(register, 0).move(0, 0);
        }
    }

    private static Assembly kinds(int sixth, int seventh) {
        return both(both(a().copy(9, 1), kind(sixth, 6)), kind(seventh, 7));
    }

    private static boolean isPointer(int kind) {
        return kind == CONTEXT || kind == STACK || kind == PACKET || kind == VALUE;
    }

    private static boolean isOfPacket(int kind) {
        return kind == PACKET || kind == END;
    }

    private static int faultOfArithmetic(int k, boolean isNarrow, int to, int from) {
        boolean isMove = k == Assembly.MOVE;
        if (to == NONE && !isMove || from == NONE) {
            return 10;
        }
        if (isMove) {
            return isNarrow && from != NUMBER ? 11 : 0;
        }
        if (to == NUMBER && from == NUMBER) {
            return 0;
        }
        boolean isSum = k == ADD && (isPointer(to) && from == NUMBER || to == NUMBER && isPointer(from));
        boolean isLess = k == Assembly.SUBTRACT && (isPointer(to) && from == NUMBER || isOfPacket(to) && isOfPacket(from));
        return !isNarrow && (isSum || isLess) ? 0 : 11;
    }

    private static void arithmetic() {
        for (int to = NONE; to <= MAYBE; to++) {
            for (int from = NONE; from <= MAYBE; from++) {
                for (int k = 0; k <= 12; k++) {
                    if (k != 8) {
                        String what = "operation " + k + " of kinds " + to + ", " + from;
                        due(what, kinds(to, from).from(k, 6, 7).leave(0), faultOfArithmetic(k, false, to, from));
                        due("narrow " + what, kinds(to, from).narrowFrom(k, 6, 7).leave(0), faultOfArithmetic(k, true, to, from));
                    }
                }
            }
        }
    }

    private static void oneOperand() {
        for (int to = NONE; to <= MAYBE; to++) {
            int fault = to == NONE ? 10 : to == NUMBER ? 0 : 11;
            due("NEGATE of kind " + to, kinds(to, NONE).negate(6).leave(0), fault);
            due("narrow NEGATE of kind " + to, kinds(to, NONE).raw(132, 6, 0, 0, 0).leave(0), fault);
            for (int bits = 16; bits <= 64; bits *= 2) {
                due("CUT of kind " + to, kinds(to, NONE).cut(6, bits).leave(0), fault);
                due("SWAP of kind " + to, kinds(to, NONE).swap(6, bits).leave(0), fault);
            }
            for (int k = 0; k <= 12; k++) {
                if (k != 8) {
                    String what = "operation " + k + " with FIELD of kind " + to;
                    due(what, kinds(to, NONE).field(k, 6, 1).leave(0), faultOfArithmetic(k, false, to, NUMBER));
                    due("narrow " + what, kinds(to, NONE).narrowField(k, 6, 1).leave(0), faultOfArithmetic(k, true, to, NUMBER));
                }
            }
            due("WIDE to kind " + to, kinds(to, NONE).wide(6, 5).leave(0), 0);
            due("a map to kind " + to, kinds(to, NONE).mapTo(6, 1).leave(0), 0);
            due("LOAD to kind " + to, kinds(to, NONE).load(8, 6, 9, 16).leave(0), 0);
        }
    }

    private static boolean isRelation(int k) {
        return k != 8 && k != 9;
    }

    private static int faultOfRelation(int k, boolean isNarrow, int to, int from) {
        if (to == NONE || from == NONE) {
            return 10;
        }
        if (to == NUMBER && from == NUMBER) {
            return 0;
        }
        boolean isSame = k == Assembly.SAME || k == Assembly.NOT_SAME;
        boolean isOrder = k == Assembly.ABOVE || k == Assembly.NOT_BELOW || k == Assembly.BELOW || k == Assembly.NOT_ABOVE;
        boolean isMaybe = to == MAYBE && from == NUMBER || to == NUMBER && from == MAYBE;
        boolean isEnd = to == PACKET && from == END || to == END && from == PACKET;
        return !isNarrow && (isSame && isMaybe || isOrder && isEnd) ? 0 : 12;
    }

    private static void relations() {
        for (int to = NONE; to <= MAYBE; to++) {
            for (int from = NONE; from <= MAYBE; from++) {
                for (int k = 1; k <= 13; k++) {
                    if (isRelation(k)) {
                        String what = "relation " + k + " of kinds " + to + ", " + from;
                        due(what, kinds(to, from).ifFrom(k, 6, 7, 0).leave(0), faultOfRelation(k, false, to, from));
                        due("narrow " + what, kinds(to, from).ifNarrowFrom(k, 6, 7, 0).leave(0), faultOfRelation(k, true, to, from));
                    }
                }
            }
        }
        for (int kind = NUMBER; kind <= MAYBE; kind++) {
            due("kind " + kind + " and itself", kinds(kind, NONE).ifFrom(Assembly.SAME, 6, 6, 0).leave(0), kind == NUMBER ? 0 : 12);
            due("kind " + kind + " and itself, by order", kinds(kind, NONE).ifFrom(Assembly.ABOVE, 6, 6, 0).leave(0), kind == NUMBER ? 0 : 12);
        }
    }

    /** A MAYBE is compared with EXACT 0 alone. */
    private static void relationsWithNumbers() {
        for (int k : new int[] {Assembly.SAME, Assembly.NOT_SAME}) {
            for (int field = -1; field <= 1; field++) {
                int fault = field == 0 ? 0 : 12;
                due("a MAYBE and FIELD " + field, kinds(MAYBE, NONE).ifField(k, 6, field, 0).leave(0), fault);
                due("a MAYBE and EXACT " + field, kinds(MAYBE, NONE).move(7, field).ifFrom(k, 6, 7, 0).leave(0), fault);
                due("EXACT " + field + " and a MAYBE", kinds(MAYBE, NONE).move(7, field).ifFrom(k, 7, 6, 0).leave(0), fault);
            }
            due("a MAYBE and 2^32", kinds(MAYBE, NONE).wide(7, 1L << 32).ifFrom(k, 6, 7, 0).leave(0), 12);
            due("a MAYBE and [0, 1]", kinds(MAYBE, NONE).load(1, 7, 9, 16).field(Assembly.AND, 7, 1).ifFrom(k, 6, 7, 0).leave(0), 12);
            due("a MAYBE and [0, 0]", kinds(MAYBE, NONE).load(1, 7, 9, 16).field(Assembly.AND, 7, 0).ifFrom(k, 6, 7, 0).leave(0), 0);
            due("a VALUE and 0", kinds(VALUE, NONE).ifField(k, 6, 0, 0).leave(0), 12);
            due("PACKET and 0", kinds(PACKET, NONE).ifField(k, 6, 0, 0).leave(0), 12);
        }
    }

    private static void memory() {
        for (int kind = NONE; kind <= MAYBE; kind++) {
            int fault = kind == NONE ? 10 : isPointer(kind) ? 14 : 13;
            for (int bytes = 1; bytes <= 8; bytes *= 2) {
                due("LOAD at kind " + kind, kinds(kind, NONE).load(bytes, 2, 6, 4096).leave(0), fault);
                due("STORE at kind " + kind, kinds(kind, NUMBER).store(bytes, 6, 4096, 7).leave(0), fault);
                due("STORE of NONE at kind " + kind, kinds(kind, NONE).store(bytes, 6, 4096, 7).leave(0), 10);
                due("STORE of a pointer at kind " + kind, kinds(kind, STACK).store(bytes, 6, 4096, 7).leave(0), fault);
                due("STORE FIELD at kind " + kind, kinds(kind, NONE).storeField(bytes, 6, 4096, 1).leave(0), fault);
            }
            due("ADD TO at kind " + kind, kinds(kind, NUMBER).addTo(8, 6, 4096, 7).leave(0), fault);
            due("ADD TO of a pointer at kind " + kind, kinds(kind, STACK).addTo(4, 6, 4096, 7).leave(0), fault);
            due("ADD TO of NONE at kind " + kind, kinds(kind, NONE).addTo(4, 6, 4096, 7).leave(0), 10);
        }
    }

    private static void stored() {
        for (int kind = NONE; kind <= MAYBE; kind++) {
            int wrong = kind == NONE ? 10 : kind == NUMBER ? 0 : 16;
            for (int bytes = 1; bytes <= 8; bytes *= 2) {
                int atStack = bytes == 8 && kind != NONE ? 0 : wrong;
                due("STORE of kind " + kind + " to STACK", kinds(kind, NONE).store(bytes, 10, -16, 6).leave(0), atStack);
                due("STORE of kind " + kind + " to a VALUE", kinds(kind, VALUE).store(bytes, 7, 0, 6).leave(0), wrong);
                due("STORE of kind " + kind + " to PACKET", room(kinds(kind, PACKET)).store(bytes, 7, 0, 6).leave(0), wrong);
                due("a part of what was saved", kinds(kind, NONE).store(8, 10, -16, 6).load(bytes, 0, 10, -16).leave(0),
                    kind == NONE ? 10 : bytes == 8 || kind == NUMBER ? 0 : 15);
            }
            due("ADD TO of kind " + kind, kinds(kind, NONE).storeField(8, 10, -16, 0).addTo(8, 10, -16, 6).leave(0), wrong);
            due("ADD TO where kind " + kind + " is saved", kinds(kind, NUMBER).store(8, 10, -16, 6).addTo(8, 10, -16, 7).leave(0), wrong);
            due("ADD TO of kind " + kind + " to a VALUE", kinds(kind, VALUE).addTo(8, 7, 0, 6).leave(0), wrong);
            due("what is saved comes back", kinds(kind, NONE).store(8, 10, -16, 6).load(8, 0, 10, -16).exit(),
                kind == NONE ? 10 : kind == NUMBER ? 0 : 18);
        }
    }

    /** The PACKET in register 7 has room for 8 bytes. */
    private static Assembly room(Assembly program) {
        return program.copy(8, 7).field(ADD, 8, 8).load(8, 5, 9, 8).ifFrom(Assembly.NOT_ABOVE, 8, 5, 2).leave(0);
    }

    /** Registers 1 to 3 are right for a helper but one of them, which is of a kind: NONE by a CALL of CLOCK, which leaves 1 to 5 so. */
    private static Assembly called(int helper, int register, int kind) {
        Assembly program = both(a().copy(9, 1).storeField(8, 10, -16, 1).storeField(8, 10, -24, 1).storeField(8, 10, -32, 1).call(5), kind(kind, 6));
        for (int i = 1; i <= 3; i++) {
            boolean isNumber = helper == 4 && i == 1 || helper == 6 && i == 2;
            if (i == register) {
                program = kind == NONE ? program : program.copy(i, 6);
            } else if (isNumber) {
                program.move(i, 8);
            } else if (i == 1 && helper != 6) {
                program.mapTo(1, 1);
            } else {
                program.copy(i, 10).field(ADD, i, -8 * i - 8);
            }
        }
        return program.call(helper).leave(0);
    }

    private static void arguments() {
        for (int helper = 1; helper <= 6; helper++) {
            for (int register = 1; register <= 3; register++) {
                boolean isLookedAt = isLookedAt(helper, register);
                due("helper " + helper + ", " + register + " is NONE", called(helper, register, NONE), isLookedAt ? 10 : 0);
                for (int kind = NUMBER; kind <= MAYBE; kind++) {
                    due("helper " + helper + ", " + register + " is of kind " + kind, called(helper, register, kind),
                        isLookedAt && !isRight(helper, register, kind) ? 17 : 0);
                }
            }
        }
    }

    private static boolean isLookedAt(int helper, int register) {
        switch (helper) {
            case 2:
                return true;
            case 1:
            case 3:
            case 6:
                return register <= 2;
            case 4:
                return register == 1;
            default:
                return false;
        }
    }

    /** A VALUE has 8 bytes, enough for all; STACK at 0 and a PACKET without ROOM have none. */
    private static boolean isRight(int helper, int register, int kind) {
        if (helper == 4) {
            return kind == NUMBER;
        }
        if (helper == 6) {
            return register == 1 ? kind == VALUE : kind == NUMBER;
        }
        return register == 1 ? kind == MAP : kind == VALUE;
    }

    /** Register 0 behind a CALL: whether relations with FIELD can and can't hold. */
    private static void open(String what, Assembly program, int k, int field, boolean goes, boolean falls) {
        FilterGuard guard = guard();
        int slot = program.size();
        CHECK.due(what, both(a(), program).ifField(k, 0, field, 0).leave(0).program(guard), 0);
        CHECK.due(what + " goes", guard.fact(slot, 1), goes ? 1 : 0);
        CHECK.due(what + " falls", guard.fact(slot, 2), falls ? 1 : 0);
    }

    private static void given() {
        Assembly head = a().storeField(8, 10, -8, 0).copy(2, 10).field(ADD, 2, -8).copy(3, 10).field(ADD, 3, -8).mapTo(1, 0);
        for (int helper : new int[] {2, 3, 5}) {
            Assembly any = both(a(), head).call(helper);
            open("helper " + helper + " gives ANY", any, Assembly.BELOW, 1, true, true);
            open("helper " + helper + " gives ANY", any, Assembly.ABOVE, -2, true, true);
            open("helper " + helper + " gives ANY", any, Assembly.LESS, Integer.MIN_VALUE, true, true);
            open("helper " + helper + " gives ANY", any, Assembly.GREATER, Integer.MAX_VALUE, true, true);
        }
        open("TELL gives 0", a().move(1, 7).call(4), Assembly.SAME, 0, true, false);
        Assembly mix = a().storeField(8, 10, -8, 0).copy(1, 10).field(ADD, 1, -8).move(2, 8).call(6);
        open("MIX gives 0 or more", mix, Assembly.BELOW, 1, true, true);
        open("MIX gives not less than 0", mix, Assembly.LESS, 0, false, true);
        open("MIX gives LOW or less", both(a(), mix).field(Assembly.RIGHT, 0, 31), Assembly.SAME, 1, true, true);
        open("MIX gives not more", both(a(), mix).field(Assembly.RIGHT, 0, 31), Assembly.ABOVE, 1, false, true);
    }

    /** Register 0 is ANY, or [0, the greatest of so many bytes]. */
    private static void read(String what, Assembly program, int bytes) {
        open(what + ": 0", program, Assembly.BELOW, 1, true, true);
        if (bytes == 8) {
            open(what + ": MOST", program, Assembly.ABOVE, -2, true, true);
            open(what + ": below 0", program, Assembly.LESS, Integer.MIN_VALUE, true, true);
            open(what + ": above", program, Assembly.GREATER, Integer.MAX_VALUE, true, true);
        } else {
            Assembly highest = both(a(), program).field(Assembly.RIGHT, 0, 8 * bytes - 1);
            open(what + ": the highest bit of its bytes", highest, Assembly.SAME, 1, true, true);
            open(what + ": no bit above", highest, Assembly.ABOVE, 1, false, true);
            open(what + ": not below 0", program, Assembly.LESS, 0, false, true);
        }
    }

    private static void reads() {
        for (int bytes = 1; bytes <= 8; bytes *= 2) {
            read("of CONTEXT, " + bytes, a().load(bytes, 0, 1, 16), bytes);
            read("of PACKET, " + bytes, room(kinds(NONE, PACKET)).load(bytes, 0, 7, 0), bytes);
            read("of a VALUE, " + bytes, kinds(NONE, VALUE).load(bytes, 0, 7, 0), bytes);
            read("of STACK that is written, " + bytes, a().storeField(4, 10, -8, 5).storeField(4, 10, -4, 5).load(bytes, 0, 10, -8), bytes);
            if (bytes < 8) {
                read("of a saved number, " + bytes, a().storeField(8, 10, -8, 5).load(bytes, 0, 10, -8), bytes);
            }
        }
        read("of ADD TO", a().move(2, 1).storeField(8, 10, -8, 5).addTo(8, 10, -8, 2).load(8, 0, 10, -8), 8);
        open("a saved number is what it was", a().storeField(8, 10, -8, -5).load(8, 0, 10, -8), Assembly.SAME, -5, true, false);
        int[] ofPacket = {PACKET, END};
        for (int to : ofPacket) {
            for (int from : ofPacket) {
                read("SUBTRACT of " + to + ", " + from, kinds(to, from).copy(0, 6).from(Assembly.SUBTRACT, 0, 7), 8);
            }
        }
        read("SUBTRACT of a PACKET and itself", kinds(PACKET, NONE).copy(0, 6).from(Assembly.SUBTRACT, 0, 0), 8);
    }

    /** Both ways of a MAYBE and 0, and of PACKET and END, are open; what they tell of all that go with it. */
    private static void bothWays() {
        for (int k : new int[] {Assembly.SAME, Assembly.NOT_SAME}) {
            Assembly program = kinds(MAYBE, NONE).store(8, 10, -16, 6).copy(7, 6);
            int slot = program.size();
            boolean isSame = k == Assembly.SAME;
            Assembly zero = a().load(8, 8, 10, -16).copy(5, 6).copy(5, 7).copy(5, 8).leave(0);
            Assembly value = a().load(8, 8, 10, -16).load(8, 5, 6, 0).load(8, 5, 7, 0).load(8, 5, 8, 0).leave(0);
            Assembly first = isSame ? value : zero;
            Assembly second = isSame ? zero : value;
            FilterGuard guard = guard();
            CHECK.due("a MAYBE and 0", both(both(program.ifField(k, 6, 0, first.size()), first), second).program(guard), 0);
            CHECK.due("it goes", guard.fact(slot, 1), 1);
            CHECK.due("it falls", guard.fact(slot, 2), 1);
            int from = slot + 1 + (isSame ? value.size() : 0);
            for (int i = 1; i <= 3; i++) {
                CHECK.due("each is EXACT 0 where it is 0", guard.fact(from + i, 3), 1);
                CHECK.due("it is 0", guard.fact(from + i, 4), 0);
            }
        }
        for (int k : new int[] {Assembly.ABOVE, Assembly.NOT_BELOW, Assembly.BELOW, Assembly.NOT_ABOVE}) {
            for (int i = 0; i < 2; i++) {
                Assembly program = kinds(PACKET, END);
                int slot = program.size();
                FilterGuard guard = guard();
                CHECK.due("PACKET and END", program.ifFrom(k, 6 + i, 7 - i, 0).leave(0).program(guard), 0);
                CHECK.due("it goes", guard.fact(slot, 1), 1);
                CHECK.due("it falls", guard.fact(slot, 2), 1);
            }
        }
    }

    private static void exits() {
        for (int kind = NONE; kind <= MAYBE; kind++) {
            Assembly program = kinds(kind, NONE);
            due("EXIT with kind " + kind, kind == NONE ? a().exit() : program.copy(0, 6).exit(), kind == NUMBER ? 0 : 18);
        }
    }
}
