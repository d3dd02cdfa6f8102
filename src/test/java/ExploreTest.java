/** Promises 4, 5 and 6, section E: paths, kept and waiting states, budget, facts. */
public final class ExploreTest {
    private static final Checker CHECK = new Checker("ExploreTest");

    private ExploreTest() {
    }

    public static void main(String[] args) {
        straight();
        aboutWhats();
        fork();
        oneWay();
        joinedPaths();
        loops();
        openStates();
        budget();
        waiting();
        keptLimit();
        within();
        withinIdentities();
        threeWays();
        factsOfArithmetic();
        wrongFacts();
        CHECK.end();
    }

    private static Assembly a() {
        return new Assembly();
    }

    /** What about() tells: fault, slot, visits, kept, most waiting, paths, slots, slots of SHORTER. */
    private static FilterGuard explored(String what, Assembly program, int budget, int... want) {
        FilterGuard guard = new FilterGuard();
        guard.map(0, 4, 8, 4);
        guard.map(0, 4, 8, 4);
        CHECK.due(what, program.program(guard, budget), want[0]);
        for (int i = 0; i < want.length; i++) {
            CHECK.due(what + ": about(" + i + ")", guard.about(i), want[i]);
        }
        return guard;
    }

    private static void facts(FilterGuard guard, int slot, long... want) {
        for (int what = 0; what < want.length; what++) {
            CHECK.due("fact(" + slot + ", " + what + ")", guard.fact(slot, what), want[what]);
        }
    }

    private static void straight() {
        FilterGuard guard = explored("a straight program", a().wide(0, 1L << 40).exit(), 2, 0, -1, 2, 0, 0, 1, 3, 3);
        facts(guard, 0, 1, 0, 0, 0, 0);
        facts(guard, 1, 0, 0, 0, 0, 0);
        facts(guard, 2, 1, 0, 0, 0, 0);
        CHECK.due("there is a program", guard.count(3), 1);
    }

    private static void aboutWhats() {
        FilterGuard guard = explored("a program", a().leave(0), 2, 0, -1, 2, 0, 0, 1, 2, 2);
        for (int what : new int[] {-1, 8, 9, Integer.MAX_VALUE, Integer.MIN_VALUE}) {
            CHECK.due("about(" + what + ")", guard.about(what), -1);
        }
        CHECK.due("a program with a fault", a().move(0, 0).load(1, 0, 1, 64).exit().program(guard), 14);
        CHECK.due("its fault", guard.about(0), 14);
        CHECK.due("its slot", guard.about(1), 1);
        CHECK.due("a visit with a fault counts", guard.about(2), 2);
        CHECK.due("its path is not through", guard.about(5), 0);
        CHECK.due("SHORTER with a fault", guard.about(7), 0);
        CHECK.due("no program is there any more", guard.count(3), 0);
        CHECK.outOfBounds("its code", () -> guard.code(0, false));
        CHECK.illegalState("a run", () -> guard.run(1));
    }

    private static void fork() {
        FilterGuard guard = explored("a fork", a().load(1, 2, 1, 16).ifField(Assembly.ABOVE, 2, 9, 2).leave(1).leave(2), 20,
            0, -1, 6, 1, 1, 2, 6, 6);
        facts(guard, 1, 1, 1, 1, 0, 0);
        facts(guard, 2, 1, 0, 0, 1, 1);
        facts(guard, 4, 1, 0, 0, 1, 2);
    }

    private static void oneWay() {
        FilterGuard went = explored("one way goes", a().move(2, 10).ifField(Assembly.ABOVE, 2, 9, 2).leave(1).leave(2), 20,
            0, -1, 4, 1, 0, 1, 6, 3);
        facts(went, 1, 1, 1, 0);
        facts(went, 2, 0, 0, 0, 0, 0);
        FilterGuard fell = explored("one way falls", a().move(2, 9).ifField(Assembly.ABOVE, 2, 9, 2).leave(1).leave(2), 20,
            0, -1, 4, 0, 0, 1, 6, 3);
        facts(fell, 1, 1, 0, 1);
        facts(fell, 4, 0, 0, 0, 0, 0);
        FilterGuard told = explored("what was told before", a().load(1, 2, 1, 16).ifField(Assembly.BELOW, 2, 10, 3)
            .ifField(Assembly.ABOVE, 2, 9, 0).leave(1).leave(2), 20, 0, -1, 7, 2, 1, 2, 7, 6);
        facts(told, 2, 1, 1, 0);
    }

    private static void joinedPaths() {
        FilterGuard same = explored("paths that come together", a().load(1, 2, 1, 16).ifField(Assembly.ABOVE, 2, 9, 1).move(2, 77)
            .move(2, 0).leave(1), 20, 0, -1, 9, 2, 1, 2, 6, 6);
        facts(same, 3, 2, 0, 0, 1, 0);
        FilterGuard other = explored("paths that are different", a().load(1, 2, 1, 16).ifField(Assembly.ABOVE, 2, 9, 1).move(2, 77)
            .leave(1), 20, 0, -1, 7, 2, 1, 2, 5, 5);
        facts(other, 3, 2, 0, 0, 1, 1);
        explored("the first way is wider", a().load(1, 2, 1, 16).ifField(Assembly.ABOVE, 2, 9, 1).load(8, 2, 1, 16)
            .leave(1), 20, 0, -1, 5, 1, 1, 2, 5, 5);
    }

    private static void loops() {
        FilterGuard guard = explored("a loop of 5", a().move(2, 0).field(Assembly.ADD, 2, 1).ifField(Assembly.BELOW, 2, 5, -2).leave(7),
            100, 0, -1, 13, 5, 0, 1, 5, 5);
        facts(guard, 1, 5, 0, 0, 0, 0);
        facts(guard, 2, 5, 1, 1, 0, 0);
        explored("a loop without end", a().move(2, 0).jump(-1), 100, 19, 1, 2, 1, 0, 0, 2, 0);
        explored("a loop to slot 0", a().move(0, 0).jump(-2), 100, 19, 0, 2, 1, 0, 0, 2, 0);
        explored("a loop that goes on for long", a().move(0, 0).field(Assembly.ADD, 0, 1).jump(-2), 101, 20, 1, 101, 51, 0, 0, 3, 0);
    }

    private static void openStates() {
        explored("a loop by a number that is not known", a().call(5).ifField(Assembly.SAME, 0, 0, -2).exit(), 100,
            19, 0, 6, 2, 1, 2);
        explored("a closed state is not open", a().load(1, 2, 1, 16).ifField(Assembly.SAME, 2, 1, 1).jump(1).jump(0).leave(1), 100,
            0, -1, 6, 2, 1, 2);
        explored("a state is open while what waits goes on from it", a().load(8, 6, 1, 16).jump(0).load(8, 7, 1, 24)
            .ifFrom(Assembly.SAME, 6, 7, 3).move(7, 0).leave(0).move(7, 0).jump(-7), 100, 19, 2, 9, 2, 1, 1);
    }

    private static void budget() {
        Assembly program = a().move(2, 1).move(3, 1).leave(0);
        explored("as many visits as the budget", program, 4, 0, -1, 4);
        FilterGuard guard = explored("one visit too many", program, 3, 20, 3, 3, 0, 0, 0, 4, 0);
        facts(guard, 2, 1, 0, 0, 1, 0);
        facts(guard, 3, 0, 0, 0, 0, 0);
        explored("a budget of 1", program, 1, 20, 1, 1);
    }

    /** As many jumps with both ways open as are told, one behind the other, to the last slots. */
    private static Assembly forks(int n) {
        Assembly program = a();
        for (int i = 0; i < n; i++) {
            program.call(5).ifField(Assembly.SAME, 0, 5, 2 * (n - i) - 2);
        }
        return program.leave(1);
    }

    private static void waiting() {
        FilterGuard most = explored("200 wait", forks(200), 20000, 0, -1, 402, 1, 200, 201);
        facts(most, 1, 1, 1, 1);
        FilterGuard more = explored("201 wait", forks(201), 20000, 21, 401, 402, 0, 200, 0);
        facts(more, 401, 1, 1, 1);
    }

    private static void keptLimit() {
        FilterGuard guard = explored("250 states of a loop, 200 are kept",
            a().move(2, 0).field(Assembly.ADD, 2, 1).ifField(Assembly.BELOW, 2, 250, -2).leave(7), 20000,
            0, -1, 503, 200, 0, 1, 5, 5);
        facts(guard, 1, 250);
    }

    private static Assembly join(Assembly fallen, Assembly gone) {
        Assembly program = a().load(8, 9, 1, 16).ifField(Assembly.SAME, 9, 3, fallen.size() + 1);
        for (int i = 0; i < fallen.size(); i++) {
            program.raw(fallen.word(i));
        }
        program.jump(gone.size());
        for (int i = 0; i < gone.size(); i++) {
            program.raw(gone.word(i));
        }
        return program.move(9, 0).leave(1);
    }

    /** Two ways with their own instructions come together: is the second within the first? */
    private static void within(String what, Assembly fallen, Assembly gone, boolean isWithin) {
        FilterGuard guard = new FilterGuard();
        guard.map(0, 4, 8, 4);
        guard.map(0, 4, 8, 4);
        Assembly program = join(fallen, gone);
        CHECK.due(what, program.program(guard), 0);
        CHECK.due(what + ": is within", guard.fact(program.size() - 1, 0), isWithin ? 1 : 2);
    }

    private static Assembly bytes(int count, int from) {
        Assembly program = a();
        for (int i = 0; i < count; i++) {
            program.storeField(1, 10, from + i, 1);
        }
        return program;
    }

    private static void within() {
        within("nothing is known", a().move(3, 0), a().move(3, 0), true);
        within("NONE has all within", a(), a().move(3, 0), true);
        within("a number does not have NONE within", a().move(3, 0), a(), false);
        within("a number and another", a().move(3, 0), a().move(3, 1), false);
        within("a range and a number in it", a().load(1, 3, 1, 16), a().move(3, 255), true);
        within("a range and a number above it", a().load(1, 3, 1, 16), a().move(3, 256), false);
        within("bits and a number that agrees", a().load(1, 3, 1, 16).field(Assembly.AND, 3, 0xF0), a().move(3, 0x30), true);
        within("bits and a number that does not", a().load(1, 3, 1, 16).field(Assembly.AND, 3, 0xF0), a().move(3, 0x31), false);
        within("signed bounds", a().load(8, 3, 1, 16).ifField(Assembly.GREATER, 3, 4, 1).move(3, 4), a().move(3, 5), false);
        within("an unsigned least", a().load(8, 3, 1, 24).ifField(Assembly.NOT_BELOW, 3, 10, 2).leave(0), a().load(8, 3, 1, 24), false);
        within("an unsigned greatest", a().load(8, 3, 1, 24).ifField(Assembly.NOT_ABOVE, 3, -10, 2).leave(0), a().load(8, 3, 1, 24), false);
        within("a signed least", a().load(8, 3, 1, 24).ifField(Assembly.NOT_LESS, 3, -10, 2).leave(0), a().load(8, 3, 1, 24), false);
        within("a signed greatest", a().load(8, 3, 1, 24).ifField(Assembly.NOT_GREATER, 3, 10, 2).leave(0), a().load(8, 3, 1, 24), false);
        within("ANY", a().load(8, 3, 1, 24), a().load(8, 3, 1, 24).ifField(Assembly.NOT_GREATER, 3, 10, 2).leave(0), true);
        within("a pointer and a number", a().copy(3, 1), a().move(3, 0), false);
        within("a number and a pointer", a().load(8, 3, 1, 16), a().copy(3, 1), false);
        within("the same place", a().copy(3, 1), a().copy(3, 1), true);
        within("another place", a().copy(3, 1), a().copy(3, 1).field(Assembly.ADD, 3, 8), false);
        within("another kind", a().copy(3, 1), a().copy(3, 10), false);
        within("another place of STACK", a().copy(3, 10), a().copy(3, 10).field(Assembly.ADD, 3, -8), false);
        within("END", a().load(8, 3, 1, 8), a().load(8, 3, 1, 8), true);
        within("the same map", a().mapTo(3, 0), a().mapTo(3, 0), true);
        within("another map", a().mapTo(3, 0), a().mapTo(3, 1), false);
        within("a slot of which nothing is known", a(), a().storeField(8, 10, -8, 1), true);
        within("a saved slot and none", a().storeField(8, 10, -8, 1), a(), false);
        within("saved slots", a().storeField(8, 10, -8, 1), a().storeField(8, 10, -8, 1), true);
        within("saved slots of different numbers", a().storeField(8, 10, -8, 1), a().storeField(8, 10, -8, 2), false);
        within("written and saved with a number", bytes(8, -8), a().storeField(8, 10, -8, 2), true);
        within("written and saved with a pointer", bytes(8, -8), a().store(8, 10, -8, 1), false);
        within("saved with a number and written", a().storeField(8, 10, -8, 2), bytes(8, -8), false);
        within("written and as much written", bytes(3, -8), bytes(3, -8), true);
        within("written and more written", bytes(3, -8), bytes(4, -8), true);
        within("written and less written", bytes(4, -8), bytes(3, -8), false);
        within("written at other places", bytes(3, -8), bytes(3, -7), false);
        within("the lowest slot", bytes(1, -512), a(), false);
    }

    /** 2 is PACKET, 3 END, and 4 its 8 bytes on. */
    private static Assembly packet() {
        return a().load(8, 2, 1, 0).load(8, 3, 1, 8).copy(4, 2).field(Assembly.ADD, 4, 8);
    }

    private static Assembly roomOf(int place) {
        return packet().field(Assembly.ADD, 4, place - 8).ifFrom(Assembly.NOT_ABOVE, 4, 3, 2).leave(0).move(4, 0);
    }

    private static Assembly find(int map, int register) {
        return a().copy(8, 1).storeField(8, 10, -8, 0).mapTo(1, map).copy(2, 10).field(Assembly.ADD, 2, -8).call(1)
            .copy(register, 0).copy(1, 8).move(0, 0).move(8, 0);
    }

    private static Assembly both(Assembly first, Assembly second) {
        for (int i = 0; i < second.size(); i++) {
            first.raw(second.word(i));
        }
        return first;
    }

    private static Assembly pointers(boolean isSame) {
        Assembly program = a().load(8, 2, 1, 0).load(1, 4, 1, 24).copy(6, 2).from(Assembly.ADD, 6, 4).copy(7, isSame ? 6 : 2);
        return (isSame ? program : program.from(Assembly.ADD, 7, 4)).move(2, 0).move(4, 0);
    }

    private static void withinIdentities() {
        within("the same packet", packet(), packet(), true);
        within("another MORE within", pointers(true), pointers(true), true);
        within("two identities and one", pointers(false), pointers(true), false);
        within("one identity and two", pointers(true), pointers(false), false);
        within("two identities and two", pointers(false), pointers(false), true);
        within("identity 0 and another", a().load(8, 6, 1, 0), pointers(true).move(7, 0), false);
        within("a MAYBE and a later one", find(0, 6), both(find(0, 7), find(0, 6)), true);
        within("a MAYBE and one of the same map", find(0, 6), find(0, 6), true);
        within("a MAYBE and one of another map", find(0, 6), find(1, 6), false);
        within("two MAYBEs of one identity and of two", find(0, 6).copy(7, 6), both(find(0, 6), find(0, 7)), false);
        within("two MAYBEs of two identities and of one", both(find(0, 6), find(0, 7)), find(0, 6).copy(7, 6), false);
        within("values", value(0, 3, 0), value(0, 3, 0), true);
        within("values of different maps", value(0, 3, 0), value(1, 3, 0), false);
        within("values at different places", value(0, 3, 0), value(0, 3, 1), false);
        within("a MORE that covers", value(0, 3, 0), value(0, 1, 0), true);
        within("a MORE that does not", value(0, 1, 0), value(0, 3, 0), false);
        within("a packet's MORE that covers", moved(3), moved(1), true);
        within("a packet's MORE that does not", moved(1), moved(3), false);
        within("as much room", roomOf(4), roomOf(4), true);
        within("more room is within less", roomOf(4), roomOf(8), true);
        within("less room is not within more", roomOf(8), roomOf(4), false);
    }

    /** A VALUE at a place, with a MORE of 0 up to what is told, is in register 6. */
    private static Assembly value(int map, int more, int place) {
        return both(find(map, 6), a().ifField(Assembly.NOT_SAME, 6, 0, 2).leave(0).load(1, 7, 1, 24).field(Assembly.AND, 7, more)
            .from(Assembly.ADD, 6, 7).field(Assembly.ADD, 6, place).move(7, 0).move(0, 0));
    }

    /** A PACKET with a MORE of 0 up to what is told is in register 6. */
    private static Assembly moved(int more) {
        return a().load(8, 6, 1, 0).load(1, 7, 1, 24).field(Assembly.AND, 7, more).from(Assembly.ADD, 6, 7).move(7, 0);
    }

    /** Three ways with a MAYBE each come together: what went with the second one's identity says nothing of the third. */
    private static void threeWays() {
        Assembly way = find(0, 6);
        Assembly program = a().load(8, 9, 1, 16).ifField(Assembly.SAME, 9, 3, way.size() + 1);
        both(program, way).jump(2 * way.size() + 3).load(8, 9, 1, 16).ifField(Assembly.SAME, 9, 4, way.size() + 1);
        both(program, way).jump(way.size());
        both(program, way).move(9, 0).leave(1);
        FilterGuard guard = new FilterGuard();
        guard.map(0, 4, 8, 4);
        CHECK.due("three ways", program.program(guard), 0);
        CHECK.due("paths", guard.about(5), 3);
        CHECK.due("visits where they come together", guard.fact(program.size() - 1, 0), 1);
    }

    private static void factsOfArithmetic() {
        FilterGuard guard = explored("facts of arithmetic", a().move(2, -3).field(Assembly.MULTIPLY, 2, 5).negate(2).swap(2, 16).cut(2, 32)
            .load(1, 3, 1, 16).field(Assembly.AND, 3, 0).narrowField(Assembly.MOVE, 4, -1).copy(5, 1).copy(6, 3).storeField(8, 10, -8, 4)
            .load(8, 7, 10, -8).copy(0, 7).exit(), 100, 0, -1, 14);
        facts(guard, 0, 1, 0, 0, 1, -3);
        facts(guard, 1, 1, 0, 0, 1, -15);
        facts(guard, 2, 1, 0, 0, 1, 15);
        facts(guard, 3, 1, 0, 0, 1, 0x0F00);
        facts(guard, 4, 1, 0, 0, 1, 0x0F00);
        facts(guard, 5, 1, 0, 0, 0, 0);
        facts(guard, 6, 1, 0, 0, 1, 0);
        facts(guard, 7, 1, 0, 0, 1, 0xFFFFFFFFL);
        facts(guard, 8, 1, 0, 0, 0, 0);
        facts(guard, 9, 1, 0, 0, 1, 0);
        facts(guard, 11, 1, 0, 0, 0, 0);
        facts(guard, 12, 1, 0, 0, 1, 4);
        FilterGuard two = explored("two numbers", a().load(1, 2, 1, 16).move(3, 1).ifField(Assembly.SAME, 2, 0, 1).move(3, 2)
            .field(Assembly.ADD, 3, 1).move(3, 0).leave(0), 100, 0, -1, 12);
        facts(two, 4, 2, 0, 0, 0, 0);
        facts(two, 5, 2, 0, 0, 1, 0);
        FilterGuard wrong = explored("a visit with a fault", a().move(2, 1).move(3, 5).field(Assembly.MULTIPLY, 1, 5).exit(), 100, 11, 2, 3);
        facts(wrong, 1, 1, 0, 0, 1, 5);
        facts(wrong, 2, 1, 0, 0, 0, 0);
        FilterGuard later = explored("a fault at a later visit", a().move(2, 4).move(3, 7).field(Assembly.MULTIPLY, 2, 1)
            .ifField(Assembly.SAME, 3, 1, 2).move(3, 1).jump(-4).copy(2, 1).jump(-6).leave(0), 100, 11, 2);
        facts(later, 2, 3, 0, 0, 1, 4);
    }

    private static void wrongFacts() {
        FilterGuard guard = explored("a program", a().leave(0), 100, 0);
        int[][] wrong = {{-1, 0}, {2, 0}, {0, -1}, {0, 5}, {2000, 0}, {Integer.MAX_VALUE, 0}, {Integer.MIN_VALUE, 0},
            {0, Integer.MAX_VALUE}, {0, Integer.MIN_VALUE}};
        for (int[] w : wrong) {
            CHECK.outOfBounds("fact(" + w[0] + ", " + w[1] + ")", () -> guard.fact(w[0], w[1]));
        }
    }
}
