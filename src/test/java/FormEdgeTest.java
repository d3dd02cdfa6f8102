/** Promise 4, section B: every OP with what is just right and just wrong in TO, FROM, OFFSET and FIELD. */
public final class FormEdgeTest {
    private static final Checker CHECK = new Checker("FormEdgeTest");
    private static final int MAPS = 2;
    private static final int[] REGISTERS = {0, 1, 2, 9, 10, 11, 15};
    private static final int[] OFFSETS = {-2, -1, 0, 1};
    private static final int[] FIELDS = {Integer.MIN_VALUE, -1, 0, 1, 2, 6, 7, 8, 16, 31, 32, 33, 63, 64, 65};

    private static FilterGuard guard;
    private static int programs;

    private FormEdgeTest() {
    }

    public static void main(String[] args) {
        everyShape();
        secondSlots();
        targets();
        lastInstructions();
        leastOfASlot();
        firstBySlots();
        CHECK.end();
    }

    private static Assembly a() {
        return new Assembly();
    }

    /** An object is used for at most 512 calls: no more than 70 programs of up to five feeds. */
    private static int faultOfForm(Assembly program) {
        if (programs % 70 == 0) {
            guard = new FilterGuard();
            for (int i = 0; i < MAPS; i++) {
                guard.map(0, 4, 8, 4);
            }
        }
        programs++;
        int fault = program.program(guard, 20);
        return fault <= 6 ? fault : 0;
    }

    private static void due(String what, Assembly program, int fault, int slot) {
        CHECK.due(what, faultOfForm(program), fault);
        if (fault != 0) {
            CHECK.due(what + ": its slot", guard.about(1), slot);
        }
    }

    private static boolean isOneOf(int number, int... all) {
        for (int one : all) {
            if (one == number) {
                return true;
            }
        }
        return false;
    }

    /** The fault of an instruction in slot 0 of two (a WIDE of three), the last of which is EXIT. */
    private static int expected(int op, int to, int from, int offset, int field) {
        int k = op / 16;
        int rest = op % 16;
        boolean isArithmetic = isOneOf(rest, 7, 15, 4, 12) && k <= 12 && k != 8;
        boolean isRelation = isOneOf(rest, 5, 13, 6, 14) && isOneOf(k, 1, 2, 3, 4, 5, 6, 7, 10, 11, 12, 13);
        if (op == 24) {
            return offset != 0 || from > 1 ? 1 : to > 9 ? 2 : from == 1 && (field < 0 || field >= MAPS) ? 4 : 0;
        }
        if (isOneOf(op, 121, 97, 105, 113)) {
            return field != 0 ? 1 : to > 9 || from > 10 ? 2 : 0;
        }
        if (isOneOf(op, 123, 99, 107, 115, 219, 195)) {
            return field != 0 ? 1 : to > 10 || from > 10 ? 2 : 0;
        }
        if (isOneOf(op, 122, 98, 106, 114)) {
            return from != 0 ? 1 : to > 10 ? 2 : 0;
        }
        if (isOneOf(op, 135, 132)) {
            return from != 0 || offset != 0 || field != 0 ? 1 : to > 9 ? 2 : 0;
        }
        if (isOneOf(op, 212, 220)) {
            return from != 0 || offset != 0 || !isOneOf(field, 16, 32, 64) ? 1 : to > 9 ? 2 : 0;
        }
        if (isArithmetic && isOneOf(rest, 15, 12)) {
            return field != 0 || offset != 0 ? 1 : to > 9 || from > 10 ? 2 : 0;
        }
        if (isArithmetic) {
            boolean isWrong = isOneOf(k, 3, 9) && field == 0 || isOneOf(k, 6, 7, 12) && (field < 0 || field > (rest == 7 ? 63 : 31));
            return from != 0 || offset != 0 ? 1 : to > 9 ? 2 : isWrong ? 3 : 0;
        }
        boolean isTarget = offset == 0 || offset == -1;
        if (op == 5) {
            return to != 0 || from != 0 || field != 0 ? 1 : isTarget ? 0 : 5;
        }
        if (op == 133) {
            return to != 0 || from != 0 || offset != 0 ? 1 : field < 1 || field > 6 ? 4 : 0;
        }
        if (op == 149) {
            return to != 0 || from != 0 || offset != 0 || field != 0 ? 1 : 0;
        }
        if (!isRelation) {
            return 1;
        }
        boolean isOfFrom = isOneOf(rest, 13, 14);
        return (isOfFrom ? field : from) != 0 ? 1 : to > 10 || from > 10 ? 2 : isTarget ? 0 : 5;
    }

    private static void everyShape() {
        for (int op = 0; op < 256; op++) {
            for (int to : REGISTERS) {
                for (int from : REGISTERS) {
                    for (int offset : OFFSETS) {
                        for (int field : FIELDS) {
                            shape(op, to, from, offset, field);
                        }
                    }
                }
            }
        }
    }

    private static void shape(int op, int to, int from, int offset, int field) {
        Assembly program = a().raw(op, to, from, offset, field);
        if (op == 24) {
            program.raw(0);
        }
        due("OP " + op + ", TO " + to + ", FROM " + from + ", OFFSET " + offset + ", FIELD " + field, program.exit(),
            expected(op, to, from, offset, field), 0);
    }

    private static void secondSlots() {
        for (int bit = 0; bit < 64; bit++) {
            due("bit " + bit + " of a number's second slot", a().raw(24, 0, 0, 0, 5).raw(1L << bit).exit(), bit < 32 ? 1 : 0, 0);
            due("bit " + bit + " of a map's second slot", a().raw(24, 0, 1, 0, 1).raw(1L << bit).exit(), 1, 0);
        }
        due("no second slot", a().exit().raw(24, 0, 0, 0, 5), 1, 1);
        due("no second slot of the one slot", a().raw(24, 0, 0, 0, 5), 1, 0);
        due("a second slot that is the last", a().move(0, 1).wide(0, 5), 6, 1);
        due("a second slot is no instruction", a().wide(0, 5).wide(2, 0x9500000000L).exit(), 0, 0);
        for (int maps = 0; maps <= 4; maps++) {
            FilterGuard some = new FilterGuard();
            for (int i = 0; i < maps; i++) {
                some.map(1, 1, 1, 1);
            }
            for (int map = -1; map <= 5; map++) {
                boolean isThere = map >= 0 && map < maps;
                CHECK.due("map " + map + " of " + maps, a().mapTo(1, map).exit().program(some), isThere ? 18 : 4);
            }
        }
    }

    /** Slot 3 of seven; 1 and 2 are a WIDE, and so are 4 and 5. */
    private static Assembly jumping(boolean isAlways, int offset) {
        Assembly program = a().move(0, 0).wide(2, 1);
        return (isAlways ? program.jump(offset) : program.ifField(Assembly.SAME, 0, 1, offset)).wide(3, 1).exit();
    }

    private static void targets() {
        for (int i = 0; i < 2; i++) {
            for (int offset = -8; offset <= 8; offset++) {
                int target = 4 + offset;
                boolean isThere = target >= 0 && target <= 6 && target != 2 && target != 5;
                due("a jump to slot " + target, jumping(i == 0, offset), isThere ? 0 : 5, 3);
            }
            due("the farthest jump forth", jumping(i == 0, 32767), 5, 3);
            due("the farthest jump back", jumping(i == 0, -32768), 5, 3);
        }
        due("a jump that is never gone", a().leave(0).jump(5).exit(), 5, 2);
        due("a jump to the last slot of all", a().jump(0).exit(), 0, 0);
        due("a jump just behind it", a().jump(1).exit(), 5, 0);
        due("the last slot jumps to itself", a().leave(0).jump(-1), 0, 0);
        due("the last slot jumps to the first", a().leave(0).jump(-3), 0, 0);
        due("the last slot jumps ahead of the first", a().leave(0).jump(-4), 5, 2);
        due("the last slot jumps behind itself", a().leave(0).jump(0), 5, 2);
    }

    private static void lastInstructions() {
        for (int op = 0; op < 256; op++) {
            int field = op == 133 ? 5 : op == 212 || op == 220 ? 64 : op % 16 == 7 || op % 16 == 4 ? op == 135 || op == 132 ? 0 : 1 : 0;
            boolean isJump = op == 5 || (op & 7) == 5 || (op & 7) == 6;
            int offset = isJump && op != 133 && op != 149 ? -1 : 0;
            boolean isForm = expected(op, 0, 0, offset, field) == 0;
            Assembly program = a().leave(0).raw(op, 0, 0, offset, field);
            if (op != 24) {
                due("OP " + op + " is last", program, !isForm ? 1 : op == 5 || op == 149 ? 0 : 6, 2);
            }
        }
    }

    private static void leastOfASlot() {
        due("1 and 2", a().raw(183, 11, 1, 0, 0).exit(), 1, 0);
        due("1 and 3", a().raw(55, 0, 1, 0, 0).exit(), 1, 0);
        due("1 and 4", a().raw(133, 0, 0, 1, 7).exit(), 1, 0);
        due("1 and 4 of a map", a().raw(24, 0, 1, 0, 9).raw(1).exit(), 1, 0);
        due("1 and 5", a().raw(5, 1, 0, 9, 0).exit(), 1, 0);
        due("2 and 3", a().raw(55, 10, 0, 0, 0).exit(), 2, 0);
        due("2 and 4", a().mapTo(10, MAPS).exit(), 2, 0);
        due("2 and 5", a().raw(21, 11, 0, 9, 0).exit(), 2, 0);
        due("2 of a WIDE, 1 of its second slot", a().raw(24, 11, 0, 0, 0).raw(1).exit(), 1, 0);
        due("5 and 6", a().leave(0).raw(21, 0, 0, 9, 0), 5, 2);
        due("4 and 6", a().leave(0).call(7), 4, 2);
        due("3 and 6", a().leave(0).field(Assembly.LEFT, 0, 64), 3, 2);
        due("2 and 6", a().leave(0).move(10, 0), 2, 2);
        due("1 and 6", a().leave(0).raw(0), 1, 2);
    }

    /** One instruction for each of the faults 1 to 4; any of them ahead of any other one is the first. */
    private static void firstBySlots() {
        long[] wrong = {Assembly.slot(0, 0, 0, 0, 0), Assembly.slot(183, 10, 0, 0, 0), Assembly.slot(55, 0, 0, 0, 0), Assembly.slot(133, 0, 0, 0, 0),
            Assembly.slot(5, 0, 0, 99, 0)};
        for (int i = 0; i < 5; i++) {
            for (int k = 0; k < 5; k++) {
                boolean isFirst = i < 4 || k == 4;
                due("fault " + (i + 1) + " ahead of fault " + (k + 1), a().move(0, 0).raw(wrong[i]).move(0, 0).raw(wrong[k]).exit(),
                    isFirst ? i + 1 : k + 1, isFirst ? 1 : 3);
            }
            due("fault " + (i + 1) + " ahead of fault 6", a().move(0, 0).raw(wrong[i]).move(0, 0), i + 1, 1);
        }
        due("form ahead of states", a().copy(0, 3).exit().move(0, 0), 6, 2);
    }
}
