/** Promise 7 and section G: the code of a program and of the SHORTER one. */
public final class ShorterTest {
    private static final Checker CHECK = new Checker("ShorterTest");

    private ShorterTest() {
    }

    public static void main(String[] args) {
        code();
        wrongCode();
        nothingToShorten();
        visitsAndWays();
        moves();
        movesThatStay();
        divisions();
        jumps();
        chainsOfJumps();
        offsets();
        widesGoTogether();
        neitherWay();
        neitherWayBack();
        CHECK.end();
    }

    private static Assembly a() {
        return new Assembly();
    }

    private static FilterGuard shorter(String what, Assembly program, Assembly want) {
        FilterGuard guard = new FilterGuard();
        CHECK.due(what, program.program(guard), 0);
        CHECK.due(what + ": slots", guard.about(7), want.size());
        for (int k = 0; k < want.size() && k < guard.about(7); k++) {
            CHECK.due(what + ": slot " + k, guard.code(k, true), want.word(k));
        }
        for (int k = 0; k < program.size(); k++) {
            CHECK.due(what + ": old slot " + k, guard.code(k, false), program.word(k));
        }
        CHECK.outOfBounds(what + ": a slot behind", () -> guard.code(want.size(), true));
        CHECK.outOfBounds(what + ": an old slot behind", () -> guard.code(program.size(), false));
        CHECK.due(what + ": the same answer", guard.run(2), guard.run(0));
        return guard;
    }

    private static void code() {
        FilterGuard guard = new FilterGuard();
        Assembly program = a().raw(121, 5, 1, 16, 0).raw(183, 0, 0, 0, -2).raw(149, 0, 0, 0, 0);
        CHECK.due("a program", program.program(guard), 0);
        CHECK.due("a LOAD", guard.code(0, false), 0x101579L);
        CHECK.due("a MOVE", guard.code(1, false), 0xFFFFFFFE000000B7L);
        CHECK.due("an EXIT", guard.code(2, false), 149);
    }

    private static void wrongCode() {
        FilterGuard guard = new FilterGuard();
        a().leave(1).program(guard);
        for (int k : new int[] {-1, 2, 2000, Integer.MAX_VALUE, Integer.MIN_VALUE}) {
            CHECK.outOfBounds("code(" + k + ", false)", () -> guard.code(k, false));
            CHECK.outOfBounds("code(" + k + ", true)", () -> guard.code(k, true));
        }
        CHECK.due("a fault", a().exit().program(guard), 18);
        CHECK.outOfBounds("code(0, false) behind a fault", () -> guard.code(0, false));
        CHECK.outOfBounds("code(0, true) behind a fault", () -> guard.code(0, true));
    }

    private static void nothingToShorten() {
        Assembly program = a().load(1, 2, 1, 16).ifField(Assembly.ABOVE, 2, 9, 2).load(8, 0, 1, 16).exit().load(4, 0, 1, 16).exit();
        shorter("nothing to shorten", program, program);
    }

    private static void visitsAndWays() {
        shorter("a jump that went alone", a().load(1, 2, 1, 16).ifField(Assembly.BELOW, 2, 256, 2).leave(1).leave(2),
            a().load(1, 2, 1, 16).leave(2));
        shorter("a jump that fell alone", a().load(1, 2, 1, 16).ifField(Assembly.ABOVE, 2, 255, 2).leave(1).leave(2),
            a().load(1, 2, 1, 16).leave(1));
        shorter("a jump back that went alone", a().move(2, 0).jump(2).leave(2).ifField(Assembly.SAME, 2, 0, -3).leave(1),
            a().move(2, 0).jump(2).leave(2).jump(-3));
        shorter("slots without visits", a().jump(1).jump(1).leave(3).jump(-4), a().leave(3));
    }

    private static void moves() {
        shorter("arithmetic that is EXACT", a().move(2, 3).field(Assembly.MULTIPLY, 2, 5).copy(0, 2).exit(),
            a().move(2, 3).move(2, 15).move(0, 15).exit());
        shorter("all kinds of arithmetic", a().move(0, 1).narrowField(Assembly.ADD, 0, 1).negate(0).raw(132, 0, 0, 0, 0).swap(0, 16).cut(0, 16)
            .exit(), a().move(0, 1).move(0, 2).move(0, -2).move(0, 2).move(0, 0x200).move(0, 0x200).exit());
        shorter("the greatest and the least", a().wide(3, 0x7FFFFFFFL).copy(0, 3).negate(0).field(Assembly.SUBTRACT, 0, 1).exit(),
            a().wide(3, 0x7FFFFFFFL).move(0, 0x7FFFFFFF).move(0, -0x7FFFFFFF).move(0, Integer.MIN_VALUE).exit());
    }

    private static void movesThatStay() {
        Assembly wide = a().move(0, -1).narrowField(Assembly.MOVE, 0, -1).field(Assembly.ADD, 0, 1).exit();
        shorter("numbers of more than 32 bits", wide, wide);
        Assembly pointer = a().copy(6, 1).load(8, 0, 1, 16).exit();
        shorter("pointers", pointer, pointer);
        Assembly loop = a().move(0, 0).field(Assembly.ADD, 0, 1).ifField(Assembly.NOT_SAME, 0, 3, -2).exit();
        shorter("different numbers", loop, loop);
        Assembly loads = a().storeField(8, 10, -8, 5).load(8, 0, 10, -8).exit();
        shorter("a LOAD that is EXACT", loads, loads);
    }

    /** What is divided has the highest bit, what it is divided by has, and both have. */
    private static void divisions() {
        shorter("the highest bit by 2^33", a().wide(2, Long.MIN_VALUE).wide(0, 1L << 33).from(Assembly.DIVIDE, 2, 0).copy(0, 2).exit(),
            a().wide(2, Long.MIN_VALUE).wide(0, 1L << 33).move(2, 1 << 30).move(0, 1 << 30).exit());
        shorter("by the highest bit", a().wide(0, Long.MAX_VALUE).wide(2, Long.MIN_VALUE).from(Assembly.DIVIDE, 0, 2).exit(),
            a().wide(0, Long.MAX_VALUE).wide(2, Long.MIN_VALUE).move(0, 0).exit());
        shorter("both", a().wide(0, -1).wide(2, Long.MIN_VALUE).from(Assembly.DIVIDE, 0, 2).exit(),
            a().wide(0, -1).wide(2, Long.MIN_VALUE).move(0, 1).exit());
        shorter("a rest that is the number itself", a().wide(0, -5).field(Assembly.REST, 0, -4).exit(), a().wide(0, -5).move(0, -5).exit());
        Assembly rest = a().wide(0, -4).field(Assembly.REST, 0, -5).exit();
        shorter("a rest of which only bounds are known", rest, rest);
        shorter("a way that no quotient goes", a().load(8, 0, 1, 16).field(Assembly.DIVIDE, 0, -1).ifField(Assembly.ABOVE, 0, 1, 1).exit().leave(9),
            a().load(8, 0, 1, 16).field(Assembly.DIVIDE, 0, -1).exit());
        shorter("a way that no rest goes", a().load(8, 0, 1, 16).field(Assembly.REST, 0, -9).ifField(Assembly.BELOW, 0, -9, 2).leave(9).exit(),
            a().load(8, 0, 1, 16).field(Assembly.REST, 0, -9).exit());
        Assembly bound = a().load(8, 0, 1, 16).field(Assembly.DIVIDE, 0, -1).ifField(Assembly.ABOVE, 0, 0, 1).exit().load(8, 0, 1, 16).exit();
        shorter("ways that are both open", bound, bound);
    }

    private static void jumps() {
        shorter("a jump to the next", a().jump(0).leave(1), a().leave(1));
        shorter("a jump over what is left out", a().jump(2).leave(0).leave(1), a().leave(1));
        Assembly back = a().jump(2).leave(1).jump(-3);
        shorter("a jump back stays", back, back);
        Assembly over = a().load(1, 0, 1, 16).ifField(Assembly.SAME, 0, 1, 2).load(1, 0, 1, 17).jump(1).load(1, 0, 1, 18).exit();
        shorter("a jump over what stays", over, over);
    }

    private static void chainsOfJumps() {
        shorter("a jump to a jump", a().jump(0).jump(0).jump(0).leave(1), a().leave(1));
        shorter("a jump over a jump", a().load(1, 0, 1, 16).ifField(Assembly.SAME, 0, 1, 1).jump(1).jump(0).exit(),
            a().load(1, 0, 1, 16).ifField(Assembly.SAME, 0, 1, 0).exit());
        shorter("a relation's jump that goes alone over one", a().load(1, 0, 1, 16).ifField(Assembly.BELOW, 0, 256, 1).jump(0).exit(),
            a().load(1, 0, 1, 16).exit());
    }

    private static void offsets() {
        shorter("offsets forth", a().load(1, 2, 1, 16).ifField(Assembly.SAME, 2, 1, 4).jump(1).move(0, 9).load(1, 0, 1, 17).exit().load(1, 0, 1, 18).exit(),
            a().load(1, 2, 1, 16).ifField(Assembly.SAME, 2, 1, 2).load(1, 0, 1, 17).exit().load(1, 0, 1, 18).exit());
        shorter("a jump of slot 0", a().jump(3).move(9, 9).leave(1).jump(-3), a().jump(2).leave(1).jump(-3));
        shorter("offsets back", a().load(1, 0, 1, 16).move(2, 0).jump(1).move(9, 9).field(Assembly.ADD, 2, 1).ifField(Assembly.ABOVE, 2, 100, 1)
            .ifField(Assembly.NOT_SAME, 2, 3, -3).exit(),
            a().load(1, 0, 1, 16).move(2, 0).field(Assembly.ADD, 2, 1).ifField(Assembly.NOT_SAME, 2, 3, -2).exit());
        shorter("a target that is left out", a().load(1, 2, 1, 16).load(1, 0, 1, 17).ifField(Assembly.SAME, 2, 1, 2).load(1, 0, 1, 18).jump(0)
            .jump(0).exit(), a().load(1, 2, 1, 16).load(1, 0, 1, 17).ifField(Assembly.SAME, 2, 1, 1).load(1, 0, 1, 18).exit());
    }

    private static void widesGoTogether() {
        shorter("a WIDE without visits", a().jump(2).wide(0, 5).leave(1), a().leave(1));
        shorter("a WIDE with visits", a().jump(1).exit().wide(0, 1L << 50).exit(), a().wide(0, 1L << 50).exit());
        shorter("a WIDE between", a().load(1, 2, 1, 16).ifField(Assembly.SAME, 2, 1, 3).jump(0).wide(0, 7).load(1, 0, 1, 17).exit(),
            a().load(1, 2, 1, 16).ifField(Assembly.SAME, 2, 1, 2).wide(0, 7).load(1, 0, 1, 17).exit());
    }

    /** A number of 2 .. 4 whose two lowest bits are 01: no long agrees, so neither way of MEET 4 is open. */
    private static void neitherWay() {
        Assembly head = a().load(8, 2, 1, 16).field(Assembly.LEFT, 2, 2).field(Assembly.OR, 2, 1);
        FilterGuard guard = shorter("a jump that did neither stays", head.ifField(Assembly.BELOW, 2, 2, 4).ifField(Assembly.ABOVE, 2, 4, 3)
            .ifField(Assembly.MEET, 2, 4, 0).leave(1).leave(2), a().load(8, 2, 1, 16).field(Assembly.LEFT, 2, 2).field(Assembly.OR, 2, 1)
            .ifField(Assembly.BELOW, 2, 2, 2).ifField(Assembly.ABOVE, 2, 4, 1).ifField(Assembly.MEET, 2, 4, 0).leave(2));
        int[] want = {0, -1, 10, 2, 2, 3, 10, 8};
        for (int what = 0; what < want.length; what++) {
            CHECK.due("about(" + what + ") of it", guard.about(what), want[what]);
        }
        CHECK.due("visits of it", guard.fact(5, 0), 1);
        CHECK.due("it did not go", guard.fact(5, 1), 0);
        CHECK.due("it did not fall", guard.fact(5, 2), 0);
    }

    /** Such a jump back to slot 0, over one that is left out. */
    private static void neitherWayBack() {
        shorter("a jump to slot 0 that did neither", a().load(8, 2, 1, 16).field(Assembly.LEFT, 2, 2).field(Assembly.OR, 2, 1).jump(0)
            .ifField(Assembly.BELOW, 2, 2, 4).ifField(Assembly.ABOVE, 2, 4, 3).ifField(Assembly.MEET, 2, 4, -7).leave(1).leave(2),
            a().load(8, 2, 1, 16).field(Assembly.LEFT, 2, 2).field(Assembly.OR, 2, 1)
            .ifField(Assembly.BELOW, 2, 2, 2).ifField(Assembly.ABOVE, 2, 4, 1).ifField(Assembly.MEET, 2, 4, -6).leave(2));
    }
}
