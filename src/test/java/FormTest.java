/** Promise 4, section B: faults of form, and the calls that program() refuses; promise 5 of them. */
public final class FormTest {
    private static final Checker CHECK = new Checker("FormTest");

    private FormTest() {
    }

    public static void main(String[] args) {
        everyOp();
        shapes();
        registers();
        fields();
        noSuch();
        targets();
        last();
        order();
        wide();
        refusedCalls();
        factsAreZero();
        CHECK.end();
    }

    private static FilterGuard fault(String what, Assembly program, int want, int slot) {
        FilterGuard guard = new FilterGuard();
        guard.map(0, 4, 8, 8);
        CHECK.due(what, program.program(guard), want);
        CHECK.due(what + ": about(0)", guard.about(0), want);
        CHECK.due(what + ": its slot", guard.about(1), slot);
        return guard;
    }

    private static boolean isOp(int op) {
        int[] ops = {24, 121, 97, 105, 113, 123, 99, 107, 115, 122, 98, 106, 114, 219, 195, 135, 132, 212, 220, 5, 133, 149};
        for (int known : ops) {
            if (op == known) {
                return true;
            }
        }
        int k = op / 16;
        int rest = op % 16;
        boolean isArithmetic = rest == 7 || rest == 15 || rest == 4 || rest == 12;
        boolean isRelation = rest == 5 || rest == 13 || rest == 6 || rest == 14;
        return isArithmetic && k <= 12 && k != 8 || isRelation && k >= 1 && k <= 13 && k != 8 && k != 9;
    }

    /** The first slot is right in form for its OP, or there is no such OP. */
    private static void everyOp() {
        for (int op = 0; op < 256; op++) {
            boolean isShift = op / 16 == 6 || op / 16 == 7 || op / 16 == 12;
            boolean needsField = !isShift && (op & 15) != 15 && (op & 15) != 12 && (op % 16 == 7 || op % 16 == 4);
            int field = op == 212 || op == 220 ? 16 : op == 133 ? 5 : needsField && op != 135 && op != 132 ? 1 : 0;
            Assembly program = new Assembly().move(0, 0).raw(op, 0, 0, 0, field).raw(0).exit();
            FilterGuard guard = new FilterGuard();
            int fault = program.program(guard);
            boolean isFormFault = fault >= 1 && fault <= 6;
            if (op == 24) {
                CHECK.due("OP 24", fault, 0);
            } else {
                // What is behind the instruction, OP 0, is the first fault of form if OP itself is none.
                CHECK.due("OP " + op + " has a fault of form", isFormFault ? fault : 0, 1);
                CHECK.due("OP " + op + ": the slot of it", guard.about(1), isOp(op) ? 2 : 1);
            }
        }
    }

    private static void shapes() {
        fault("LOAD with FIELD", new Assembly().raw(121, 0, 1, 16, 1).exit(), 1, 0);
        fault("STORE with FIELD", new Assembly().raw(123, 10, 1, -8, 1).exit(), 1, 0);
        fault("ADD TO with FIELD", new Assembly().raw(219, 10, 1, -8, 1).exit(), 1, 0);
        fault("STORE FIELD with FROM", new Assembly().raw(122, 10, 1, -8, 1).exit(), 1, 0);
        fault("ADD of FIELD with FROM", new Assembly().raw(7, 0, 1, 0, 1).exit(), 1, 0);
        fault("ADD of FROM with FIELD", new Assembly().raw(15, 0, 1, 0, 1).exit(), 1, 0);
        fault("ADD with OFFSET", new Assembly().raw(7, 0, 0, 1, 1).exit(), 1, 0);
        fault("NEGATE with FIELD", new Assembly().raw(135, 0, 0, 0, 1).exit(), 1, 0);
        fault("NEGATE with FROM", new Assembly().raw(135, 0, 1, 0, 0).exit(), 1, 0);
        fault("NEGATE narrow with OFFSET", new Assembly().raw(132, 0, 0, -1, 0).exit(), 1, 0);
        fault("NEGATE by FROM", new Assembly().raw(143, 0, 1, 0, 0).exit(), 1, 0);
        for (int bits : new int[] {0, 8, 15, 17, 24, 48, 63, 65, 128, -16, -1}) {
            fault("CUT of " + bits, new Assembly().raw(212, 0, 0, 0, bits).exit(), 1, 0);
            fault("SWAP of " + bits, new Assembly().raw(220, 0, 0, 0, bits).exit(), 1, 0);
        }
        fault("SWAP with FROM", new Assembly().raw(220, 0, 1, 0, 16).exit(), 1, 0);
        fault("CUT with OFFSET", new Assembly().raw(212, 0, 0, 1, 16).exit(), 1, 0);
        fault("JUMP with FIELD", new Assembly().raw(5, 0, 0, 0, 1).exit(), 1, 0);
        fault("JUMP with TO", new Assembly().raw(5, 1, 0, 0, 0).exit(), 1, 0);
        fault("JUMP with FROM", new Assembly().raw(5, 0, 1, 0, 0).exit(), 1, 0);
        fault("a relation of FIELD with FROM", new Assembly().raw(21, 1, 1, 0, 0).exit(), 1, 0);
        fault("a relation of FROM with FIELD", new Assembly().raw(29, 1, 1, 0, 1).exit(), 1, 0);
        fault("CALL with TO", new Assembly().raw(133, 1, 0, 0, 5).exit(), 1, 0);
        fault("CALL with FROM", new Assembly().raw(133, 0, 1, 0, 5).exit(), 1, 0);
        fault("CALL with OFFSET", new Assembly().raw(133, 0, 0, 1, 5).exit(), 1, 0);
        fault("EXIT with TO", new Assembly().raw(149, 1, 0, 0, 0), 1, 0);
        fault("EXIT with FROM", new Assembly().raw(149, 0, 1, 0, 0), 1, 0);
        fault("EXIT with OFFSET", new Assembly().raw(149, 0, 0, 1, 0), 1, 0);
        fault("EXIT with FIELD", new Assembly().raw(149, 0, 0, 0, 1), 1, 0);
    }

    private static void wide() {
        fault("WIDE", new Assembly().wide(0, -1).exit(), 0, -1);
        fault("WIDE without a second slot", new Assembly().leave(0).raw(24, 0, 0, 0, 0), 1, 2);
        fault("WIDE with OFFSET", new Assembly().raw(24, 0, 0, 1, 0).raw(0).exit(), 1, 0);
        fault("WIDE with FROM 2", new Assembly().raw(24, 0, 2, 0, 0).raw(0).exit(), 1, 0);
        fault("WIDE with FROM 15", new Assembly().raw(24, 0, 15, 0, 0).raw(0).exit(), 1, 0);
        fault("the second slot's OP", new Assembly().raw(24, 0, 0, 0, 0).raw(1, 0, 0, 0, 0).exit(), 1, 0);
        fault("the second slot's TO", new Assembly().raw(24, 0, 0, 0, 0).raw(0, 1, 0, 0, 0).exit(), 1, 0);
        fault("the second slot's FROM", new Assembly().raw(24, 0, 0, 0, 0).raw(0, 0, 1, 0, 0).exit(), 1, 0);
        fault("the second slot's OFFSET", new Assembly().raw(24, 0, 0, 0, 0).raw(0, 0, 0, 1, 0).exit(), 1, 0);
        fault("the second slot's FIELD of a map", new Assembly().raw(24, 0, 1, 0, 0).raw(0, 0, 0, 0, 1).leave(0), 1, 0);
        fault("a map", new Assembly().mapTo(0, 0).leave(0), 0, -1);
        fault("WIDE to 10", new Assembly().wide(10, 0).leave(0), 2, 0);
        fault("WIDE to 11", new Assembly().wide(11, 0).leave(0), 2, 0);
    }

    private static void registers() {
        fault("TO 11", new Assembly().copy(11, 1).leave(0), 2, 0);
        fault("FROM 11", new Assembly().copy(0, 11).leave(0), 2, 0);
        fault("FROM 15", new Assembly().copy(0, 15).leave(0), 2, 0);
        fault("MOVE to 10", new Assembly().copy(10, 1).leave(0), 2, 0);
        fault("MOVE from 10", new Assembly().copy(9, 10).leave(0), 0, -1);
        fault("ADD to 10", new Assembly().field(Assembly.ADD, 10, -8).leave(0), 2, 0);
        fault("LOAD to 10", new Assembly().load(8, 10, 1, 0).leave(0), 2, 0);
        fault("LOAD from 11", new Assembly().load(8, 0, 11, 0).leave(0), 2, 0);
        fault("STORE to 10", new Assembly().store(8, 10, -8, 1).leave(0), 0, -1);
        fault("STORE to 11", new Assembly().store(8, 11, -8, 1).leave(0), 2, 0);
        fault("STORE of 12", new Assembly().store(8, 10, -8, 12).leave(0), 2, 0);
        fault("ADD TO at 13", new Assembly().addTo(8, 13, -8, 1).leave(0), 2, 0);
        fault("NEGATE of 10", new Assembly().negate(10).leave(0), 2, 0);
        fault("CUT of 10", new Assembly().cut(10, 16).leave(0), 2, 0);
        fault("SWAP of 10", new Assembly().swap(10, 16).leave(0), 2, 0);
        fault("a relation of 11", new Assembly().ifField(Assembly.SAME, 11, 0, 0).leave(0), 2, 0);
        fault("a relation with 14", new Assembly().ifFrom(Assembly.SAME, 1, 14, 0).leave(0), 2, 0);
    }

    private static void fields() {
        int[] shifts = {Assembly.LEFT, Assembly.RIGHT, Assembly.RIGHT_SIGNED};
        for (int k : shifts) {
            fault("a shift by 63", new Assembly().move(0, 1).field(k, 0, 63).exit(), 0, -1);
            fault("a shift by 64", new Assembly().move(0, 1).field(k, 0, 64).exit(), 3, 1);
            fault("a shift by -1", new Assembly().move(0, 1).field(k, 0, -1).exit(), 3, 1);
            fault("a narrow shift by 31", new Assembly().move(0, 1).narrowField(k, 0, 31).exit(), 0, -1);
            fault("a narrow shift by 32", new Assembly().move(0, 1).narrowField(k, 0, 32).exit(), 3, 1);
            fault("a shift by a register", new Assembly().move(0, 64).from(k, 0, 0).exit(), 0, -1);
        }
        for (int k : new int[] {Assembly.DIVIDE, Assembly.REST}) {
            fault("by 0", new Assembly().move(0, 1).field(k, 0, 0).exit(), 3, 1);
            fault("narrow by 0", new Assembly().move(0, 1).narrowField(k, 0, 0).exit(), 3, 1);
            fault("by -1", new Assembly().move(0, 1).field(k, 0, -1).exit(), 0, -1);
            fault("by a register", new Assembly().move(0, 0).from(k, 0, 0).exit(), 0, -1);
        }
    }

    private static void noSuch() {
        for (int helper : new int[] {0, 7, -1, Integer.MAX_VALUE, Integer.MIN_VALUE}) {
            fault("helper " + helper, new Assembly().call(helper).leave(0), 4, 0);
        }
        for (int map : new int[] {1, 4, -1, Integer.MAX_VALUE, Integer.MIN_VALUE}) {
            fault("map " + map, new Assembly().mapTo(0, map).leave(0), 4, 0);
        }
    }

    private static void targets() {
        fault("a jump behind the last slot", new Assembly().jump(1).exit(), 5, 0);
        fault("a jump ahead of the first slot", new Assembly().jump(-2).exit(), 5, 0);
        fault("a jump far away", new Assembly().jump(32767).exit(), 5, 0);
        fault("a jump far away", new Assembly().jump(-32768).exit(), 5, 0);
        fault("a jump to a WIDE's second slot", new Assembly().jump(1).wide(0, 1).exit(), 5, 0);
        fault("a jump to a WIDE", new Assembly().jump(0).wide(0, 1).exit(), 0, -1);
        fault("a relation's jump", new Assembly().move(0, 0).ifField(Assembly.SAME, 0, 0, 1).exit(), 5, 1);
        fault("a relation's jump to the last slot", new Assembly().move(0, 0).ifField(Assembly.SAME, 0, 0, 0).exit(), 0, -1);
    }

    private static void last() {
        fault("MOVE is last", new Assembly().move(0, 0), 6, 0);
        fault("WIDE is last", new Assembly().move(0, 0).wide(0, 0), 6, 1);
        fault("a relation's jump is last", new Assembly().move(0, 0).ifField(Assembly.SAME, 0, 0, -1), 6, 1);
        fault("CALL is last", new Assembly().call(5), 6, 0);
        fault("JUMP is last", new Assembly().jump(1).jump(1).leave(3).raw(5, 0, 0, -3, 0), 0, -1);
    }

    private static void order() {
        fault("1 ahead of 2", new Assembly().raw(7, 11, 1, 0, 0).exit(), 1, 0);
        fault("2 ahead of 3", new Assembly().raw(55, 11, 0, 0, 0).exit(), 2, 0);
        fault("2 ahead of 4", new Assembly().mapTo(11, 9).exit(), 2, 0);
        fault("1 ahead of 3", new Assembly().raw(55, 0, 0, 1, 0).exit(), 1, 0);
        fault("1 ahead of 4", new Assembly().raw(133, 0, 0, 1, 9).exit(), 1, 0);
        fault("4 of an earlier slot", new Assembly().call(7).raw(0).exit(), 4, 0);
        fault("3 of an earlier slot", new Assembly().field(Assembly.DIVIDE, 0, 0).copy(0, 11).exit(), 3, 0);
        fault("5 behind 4 of a later slot", new Assembly().jump(100).call(7).exit(), 4, 1);
        fault("6 behind 5", new Assembly().jump(100).move(0, 0), 5, 0);
        fault("the first 5", new Assembly().move(0, 0).jump(100).jump(-100).exit(), 5, 1);
        fault("form ahead of states", new Assembly().copy(0, 5).call(7).exit(), 4, 1);
    }

    private static void refusedCalls() {
        FilterGuard guard = new FilterGuard();
        Assembly program = new Assembly().leave(3);
        CHECK.due("an accepted program", program.program(guard, 2), 0);
        int[][] wrong = {{0, 10}, {-1, 10}, {2001, 10}, {3, 10}, {2, 0}, {2, -1}, {2, 20001}, {Integer.MAX_VALUE, 10},
            {Integer.MIN_VALUE, 10}, {2, Integer.MAX_VALUE}, {536870912, 10}};
        for (int[] w : wrong) {
            Assembly.feed(guard, program.bytes());
            CHECK.illegalArgument("program(" + w[0] + ", " + w[1] + ")", () -> guard.program(w[0], w[1]));
            CHECK.due("the tape is used up", guard.count(0), 0);
            CHECK.due("the program stays", guard.run(0), 3);
            CHECK.due("about stays", guard.about(2), 2);
        }
        CHECK.illegalArgument("program of an empty tape", () -> guard.program(1, 1));
        CHECK.due("facts stay", guard.fact(1, 0), 1);
        CHECK.due("the greatest budget", program.program(guard, 20000), 0);
        CHECK.due("slots", guard.about(6), 2);
        // So many slots can't be fed in 512 calls; the document's limit is kept all the same.
        FilterGuard large = new FilterGuard();
        Assembly most = new Assembly();
        for (int i = 0; i < 1999; i++) {
            most.move(0, i);
        }
        most.exit();
        CHECK.due("2000 slots", most.program(large), 0);
        CHECK.due("2000 visits", large.about(2), 2000);
        CHECK.due("its answer", large.run(2), 1998);
        CHECK.due("a program behind it", new Assembly().leave(1).program(large), 0);
    }

    private static void factsAreZero() {
        FilterGuard guard = new FilterGuard();
        Assembly fine = new Assembly().move(0, 5).ifField(Assembly.SAME, 0, 5, 0).exit();
        CHECK.due("an accepted program", fine.program(guard), 0);
        CHECK.due("facts of it", guard.fact(0, 0), 1);
        CHECK.due("a fault of form", new Assembly().move(0, 5).ifField(Assembly.SAME, 0, 5, 0).raw(0).program(guard), 1);
        for (int what = 2; what <= 5; what++) {
            CHECK.due("about(" + what + ") behind a fault of form", guard.about(what), 0);
        }
        CHECK.due("slots behind a fault of form", guard.about(6), 3);
        CHECK.due("SHORTER behind a fault of form", guard.about(7), 0);
        for (int slot = 0; slot < 3; slot++) {
            for (int what = 0; what <= 4; what++) {
                CHECK.due("fact(" + slot + ", " + what + ")", guard.fact(slot, what), 0);
            }
        }
        CHECK.outOfBounds("fact(3, 0)", () -> guard.fact(3, 0));
        CHECK.due("there is no program", guard.count(3), 0);
        CHECK.illegalState("run", () -> guard.run(0));
        CHECK.outOfBounds("code", () -> guard.code(0, false));
    }
}
