/** Promises 4 to 6, section E: how many states are kept and wait, which are open, and what just is WITHIN what. */
public final class ExploreEdgeTest {
    private static final Checker CHECK = new Checker("ExploreEdgeTest");
    private static final int ADD = Assembly.ADD;
    private static final int SAME = Assembly.SAME;

    private ExploreEdgeTest() {
    }

    public static void main(String[] args) {
        keptStates();
        waitingStates();
        waitingAndOneWay();
        latestOfWaiting();
        budgetAndMarks();
        budgetAndOpenStates();
        marks();
        ways();
        firstOfKept();
        openAndClosed();
        boundsWithin();
        bitsWithin();
        placesWithin();
        placesAndMapsWithin();
        roomsWithin();
        identitiesWithin();
        bytesWithin();
        allIdentities();
        facts();
        oneObject();
        CHECK.end();
    }

    private static Assembly a() {
        return new Assembly();
    }

    private static Assembly both(Assembly first, Assembly second) {
        for (int i = 0; i < second.size(); i++) {
            first.raw(second.word(i));
        }
        return first;
    }

    /** What about() tells: fault, slot, visits, kept, most waiting, paths. */
    private static FilterGuard explored(String what, Assembly program, int budget, int... want) {
        FilterGuard guard = new FilterGuard();
        guard.map(0, 4, 8, 4);
        guard.map(0, 4, 8, 4);
        CHECK.due(what, program.program(guard, budget), want[0]);
        for (int i = 0; i < want.length; i++) {
            CHECK.due(what + ": about(" + i + ")", guard.about(i), want[i]);
        }
        return guard;
    }

    /** So many states are kept in a loop; then two ways come together, and the second is within the first if that was kept. */
    private static void keptStates() {
        for (int rounds = 198; rounds <= 202; rounds++) {
            Assembly program = a().load(8, 9, 1, 16).move(2, 0).field(ADD, 2, 1).ifField(Assembly.BELOW, 2, rounds, -2).ifField(SAME, 9, 3, 0).leave(7);
            boolean isKept = rounds < 200;
            FilterGuard guard = explored(rounds + " states of a loop", program, 20000, 0, -1, 2 + 2 * rounds + 1 + (isKept ? 2 : 4),
                isKept ? rounds + 1 : 200, 1, 2);
            CHECK.due("visits of the loop", guard.fact(2, 0), rounds);
            CHECK.due("visits where the ways come together", guard.fact(5, 0), isKept ? 1 : 2);
        }
        keptOfALoop();
    }

    /** The state of a loop without end is within the one that was kept, if it was. */
    private static void keptOfALoop() {
        for (int rounds = 199; rounds <= 200; rounds++) {
            Assembly program = a().move(2, 0).field(ADD, 2, 1).ifField(Assembly.BELOW, 2, rounds, -2).jump(-1);
            boolean isKept = rounds < 200;
            explored("a loop behind " + rounds + " states", program, 1000, isKept ? 19 : 20, 3, isKept ? 2 + 2 * rounds : 1000, 200, 0, 0);
        }
    }

    /** So many jumps with both ways open, one behind the other, then some more slots; all go to the last two. */
    private static Assembly forks(int n, Assembly then) {
        Assembly program = a();
        for (int i = 0; i < n; i++) {
            program.call(5).ifField(SAME, 0, 5, 2 * (n - i) - 2 + then.size());
        }
        return both(program, then).leave(1);
    }

    private static void waitingStates() {
        explored("199 wait", forks(199, a()), 20000, 0, -1, 400, 1, 199, 200);
        explored("200 wait", forks(200, a()), 20000, 0, -1, 402, 1, 200, 201);
        FilterGuard guard = explored("one more", forks(201, a()), 20000, 21, 401, 402, 0, 200, 0);
        CHECK.due("its visit is counted", guard.fact(401, 0), 1);
        CHECK.due("no program", guard.count(3), 0);
        CHECK.due("slots of the SHORTER one", guard.about(7), 0);
    }

    /** What has one way, or none that must wait, is gone with 200 waiting; what was taken waits no more. */
    private static void waitingAndOneWay() {
        explored("200 wait, and a jump with one way", forks(200, a().move(2, 1).ifField(SAME, 2, 1, 0).move(3, 0)), 20000, 0, -1, 407, 3, 200, 201);
        explored("200 wait, and a jump with both", forks(200, a().call(5).ifField(SAME, 0, 5, 0).move(3, 0)), 20000, 21, 401, 402, 0, 200, 0);
        Assembly twice = a();
        for (int i = 0; i < 150; i++) {
            twice.call(5).ifField(SAME, 0, 5, 0);
        }
        explored("150 wait, each time the latest is taken", twice.leave(1), 20000, 0, -1, 302, 150, 150, 151);
        Assembly again = a();
        for (int i = 0; i < 200; i++) {
            again.call(5).ifField(SAME, 0, 5, 400 - 2 * i);
        }
        again.leave(1).call(5).ifField(SAME, 0, 6, 0).leave(2);
        explored("200 waited, and one that was taken has both ways", again, 20000, 0, -1, 406, 2, 200, 202);
    }

    /** The way where it does not hold is gone first, then the latest that waits: their faults are found in that order. */
    private static void latestOfWaiting() {
        Assembly three = a().load(8, 9, 1, 16).ifField(SAME, 9, 1, 3).ifField(SAME, 9, 2, 3).load(1, 0, 10, -8).exit().load(1, 0, 10, 0).exit()
            .load(1, 0, 9, 0).exit();
        explored("where it does not hold", three, 100, 15, 3, 4, 0, 2, 0);
        Assembly fine = a().load(8, 9, 1, 16).ifField(SAME, 9, 1, 3).ifField(SAME, 9, 2, 4).leave(0).load(1, 0, 10, 0).exit().load(1, 0, 9, 0).exit();
        explored("the latest that waits", fine, 100, 13, 7, 6, 1, 2, 1);
        Assembly first = a().load(8, 9, 1, 16).ifField(SAME, 9, 1, 3).ifField(SAME, 9, 2, 4).leave(0).load(1, 0, 10, 0).exit().leave(1);
        explored("then the one that waited first", first, 100, 14, 5, 8, 2, 2, 2);
        Assembly nested = a().load(8, 9, 1, 16).ifField(SAME, 9, 1, 2).leave(0).ifField(SAME, 9, 1, 2).leave(1).leave(2);
        explored("one that was taken has its own ways", nested, 100, 0, -1, 7, 2, 1, 2);
    }

    private static void budgetAndMarks() {
        Assembly joined = a().load(1, 2, 1, 16).ifField(SAME, 2, 9, 0).leave(1);
        explored("a path that is through needs no visit", joined, 4, 0, -1, 4, 1, 1, 2);
        explored("one less", joined, 3, 20, 3, 3, 1, 1, 0);
        explored("the budget is used up at a mark", joined, 2, 20, 2, 2, 1, 1, 0);
        Assembly apart = a().load(1, 2, 1, 16).ifField(SAME, 2, 9, 1).move(2, 3).leave(1);
        explored("two ways", apart, 7, 0, -1, 7, 2, 1, 2);
        FilterGuard guard = explored("the second way's last visit", apart, 6, 20, 4, 6, 2, 1, 1);
        CHECK.due("it is not counted", guard.fact(4, 0), 1);
        CHECK.due("that ahead of it is", guard.fact(3, 0), 2);
        explored("the second way's first visit", apart, 5, 20, 3, 5, 2, 1, 1);
    }

    private static void budgetAndOpenStates() {
        Assembly loop = a().move(0, 0).jump(-1);
        explored("a loop without end", loop, 20000, 19, 1, 2, 1, 0, 0);
        explored("it is seen ahead of the budget", loop, 2, 19, 1, 2, 1, 0, 0);
        explored("but not with one less", loop, 1, 20, 1, 1, 1, 0, 0);
        Assembly first = a().move(2, 0).jump(-2);
        explored("a loop to the first slot", first, 20000, 19, 0, 2, 1, 0, 0);
    }

    private static void marks() {
        explored("no mark", a().leave(0), 20, 0, -1, 2, 0, 0, 1);
        explored("a jump that is never gone makes one", a().leave(0).jump(-2), 20, 0, -1, 2, 1, 0, 1);
        explored("so does one with a relation", a().leave(0).ifField(SAME, 0, 0, -2).exit(), 20, 0, -1, 2, 1, 0, 1);
        explored("the first slot", a().leave(0).jump(-3), 20, 0, -1, 2, 1, 0, 1);
        explored("a JUMP always", a().jump(0).leave(0), 20, 0, -1, 3, 1, 0, 1);
        explored("two jumps to one slot", a().jump(0).leave(0).jump(-3), 20, 0, -1, 3, 1, 0, 1);
        explored("a second slot of a WIDE is no jump", a().wide(0, 0x500000000L).wide(0, 5).exit(), 20, 0, -1, 3, 0, 0, 1);
    }

    /** A way that is not open is not gone, and does not wait. */
    private static void ways() {
        FilterGuard goes = explored("it goes", a().load(1, 2, 1, 16).ifField(Assembly.BELOW, 2, 256, 1).exit().leave(0), 20, 0, -1, 4, 1, 0, 1);
        CHECK.due("WENT", goes.fact(1, 1), 1);
        CHECK.due("FELL", goes.fact(1, 2), 0);
        FilterGuard falls = explored("it falls", a().load(1, 2, 1, 16).ifField(Assembly.ABOVE, 2, 255, 2).leave(0).exit(), 20, 0, -1, 4, 0, 0, 1);
        CHECK.due("WENT", falls.fact(1, 1), 0);
        CHECK.due("FELL", falls.fact(1, 2), 1);
        FilterGuard both = explored("both", a().load(1, 2, 1, 16).ifField(Assembly.BELOW, 2, 255, 2).leave(0).leave(1), 20, 0, -1, 6, 1, 1, 2);
        CHECK.due("WENT", both.fact(1, 1), 1);
        CHECK.due("FELL", both.fact(1, 2), 1);
        FilterGuard itself = explored("a number and itself", a().move(2, 3).ifFrom(Assembly.NOT_SAME, 2, 2, 0).leave(0), 20, 0, -1, 4, 1, 1, 2);
        CHECK.due("WENT", itself.fact(1, 1), 1);
        CHECK.due("FELL", itself.fact(1, 2), 1);
        FilterGuard narrow = explored("narrow, too", a().move(2, 3).ifNarrowFrom(Assembly.ABOVE, 2, 2, 0).leave(0), 20, 0, -1, 4, 1, 1, 2);
        CHECK.due("WENT", narrow.fact(1, 1), 1);
        FilterGuard twice = explored("one way at each of two visits", a().move(2, 0).ifField(SAME, 2, 1, 2).move(2, 1).jump(-3).leave(0), 20, 0, -1, 7, 3, 0, 1);
        CHECK.due("WENT", twice.fact(1, 1), 1);
        CHECK.due("FELL", twice.fact(1, 2), 1);
    }

    /** A state that is within two kept ones: what counts is the one that was kept first. */
    private static void firstOfKept() {
        Assembly closedFirst = a().load(1, 6, 1, 16).load(8, 9, 1, 24).move(7, 0).ifField(SAME, 9, 1, 2).move(9, 0).jump(3)
            .move(9, 0).move(6, 5).load(8, 7, 1, 32)
            .ifField(Assembly.NOT_SAME, 7, 0, 2).leave(0).move(7, 0).jump(-5);
        FilterGuard guard = explored("the first is closed, the second open", closedFirst, 100, 0);
        CHECK.due("paths", guard.about(5), 3);
        CHECK.due("visits where they come together", guard.fact(9, 0), 2);
        Assembly openFirst = a().load(1, 6, 1, 16).move(7, 0).jump(0)
            .ifField(Assembly.NOT_SAME, 7, 0, 10).ifField(SAME, 6, 5, 9).load(8, 9, 1, 24).ifField(SAME, 9, 1, 4)
            .move(6, 5).load(8, 7, 1, 32).move(9, 0).jump(-8)
            .move(6, 5).move(9, 0).jump(-11)
            .leave(0);
        explored("the first is open, the second closed", openFirst, 100, 19, 3);
    }

    /** The second way comes to where the first one was when all of that is through, or while some of it waits. */
    private static void openAndClosed() {
        Assembly closed = a().load(8, 9, 1, 16).ifField(SAME, 9, 3, 3).load(1, 2, 1, 24).move(9, 0).jump(2).load(1, 2, 1, 24).move(9, 0)
            .ifField(SAME, 2, 1, 2).leave(0).leave(1);
        explored("all is through", closed, 100, 0, -1, 12, 3, 2, 3);
        Assembly open = a().load(1, 2, 1, 24).jump(0).ifField(SAME, 2, 1, 2).leave(0).load(1, 2, 1, 24).jump(-5);
        explored("some of it goes on", open, 100, 19, 2, 7, 2, 1, 1);
        Assembly fresh = a().load(1, 2, 1, 24).jump(0).ifField(SAME, 2, 1, 2).leave(0).move(2, 256).jump(-5);
        explored("what goes on from it is not within it", fresh, 100, 0, -1, 10, 3, 1, 2);
    }

    private static Assembly join(Assembly fallen, Assembly gone) {
        Assembly program = both(a().load(8, 9, 1, 16).ifField(SAME, 9, 3, fallen.size() + 1), fallen).jump(gone.size());
        return both(program, gone).move(9, 0).leave(1);
    }

    /** Two ways with their own instructions come together: is the second within the first? */
    private static void within(String what, Assembly fallen, Assembly gone, boolean isWithin) {
        FilterGuard guard = new FilterGuard();
        guard.map(0, 4, 8, 4);
        guard.map(0, 4, 8, 4);
        Assembly program = join(fallen, gone);
        CHECK.due(what, program.program(guard), 0);
        CHECK.due(what + ": is within", guard.fact(program.size() - 1, 0), isWithin ? 1 : 2);
    }

    /** Register 3 is ANY within bounds told by two relations. */
    private static Assembly bounded(int k, int first, int secondK, int second) {
        return a().load(8, 3, 1, 24).ifField(k, 3, first, 2).leave(0).ifField(secondK, 3, second, 2).leave(0);
    }

    private static Assembly unsigned(int least, int greatest) {
        return bounded(Assembly.NOT_BELOW, least, Assembly.NOT_ABOVE, greatest);
    }

    private static Assembly signed(int least, int greatest) {
        return bounded(Assembly.NOT_LESS, least, Assembly.NOT_GREATER, greatest);
    }

    private static void boundsWithin() {
        within("the same bounds", unsigned(10, 20), unsigned(10, 20), true);
        within("a lesser least", unsigned(10, 20), unsigned(9, 20), false);
        within("a greater least", unsigned(10, 20), unsigned(11, 20), true);
        within("a greater greatest", unsigned(10, 20), unsigned(10, 21), false);
        within("a lesser greatest", unsigned(10, 20), unsigned(10, 19), true);
        within("bounds above all longs with sign", unsigned(-20, -10), unsigned(-20, -10), true);
        within("a lesser least there", unsigned(-20, -10), unsigned(-21, -10), false);
        within("a greater greatest there", unsigned(-20, -10), unsigned(-20, -9), false);
        within("bounds from 5 to -5 without sign", unsigned(5, -5), unsigned(5, -5), true);
        within("a lesser least of them", unsigned(5, -5), unsigned(4, -5), false);
        within("a greater greatest of them", unsigned(5, -5), unsigned(5, -4), false);
        within("bounds from -5 to 5 with sign", signed(-5, 5), signed(-5, 5), true);
        within("a lesser least of them", signed(-5, 5), signed(-6, 5), false);
        within("a greater least of them", signed(-5, 5), signed(-4, 5), true);
        within("a greater greatest of them", signed(-5, 5), signed(-5, 6), false);
        within("a lesser greatest of them", signed(-5, 5), signed(-5, 4), true);
        within("the least of the bounds", unsigned(10, 20), a().move(3, 10), true);
        within("the greatest of the bounds", unsigned(10, 20), a().move(3, 20), true);
        within("one below", unsigned(10, 20), a().move(3, 9), false);
        within("one above", unsigned(10, 20), a().move(3, 21), false);
        within("a number has no range within", a().move(3, 10), unsigned(10, 20), false);
    }

    private static Assembly masked(int mask, int ones) {
        return a().load(1, 3, 1, 24).field(Assembly.AND, 3, mask).field(Assembly.OR, 3, ones);
    }

    private static void bitsWithin() {
        within("the same bits", masked(0xF0, 0), masked(0xF0, 0), true);
        within("one bit more is known", masked(0xF0, 0), masked(0xE0, 0), true);
        within("one bit less is known", masked(0xF0, 0), masked(0xF8, 0), false);
        within("a bit that is known differs", masked(0xF0, 1), masked(0xF0, 3), false);
        within("a bit that is known is the same", masked(0xF0, 1), masked(0xE0, 1), true);
        within("the same bounds, and bits that are not known", masked(0xF0, 0), a().load(1, 3, 1, 24).ifField(Assembly.NOT_ABOVE, 3, 0xF0, 2).leave(0), false);
        within("the same bounds, and bits that are known", a().load(1, 3, 1, 24).ifField(Assembly.NOT_ABOVE, 3, 0xF0, 2).leave(0), masked(0xF0, 0), true);
        within("a number that has them", masked(0xF0, 1), a().move(3, 0x31), true);
        within("a number that has them not", masked(0xF0, 1), a().move(3, 0x30), false);
    }

    private static Assembly packetAt(int place) {
        return a().load(8, 3, 1, 0).field(ADD, 3, place);
    }

    private static Assembly moved(int more) {
        return a().load(8, 3, 1, 0).load(1, 2, 1, 24).field(Assembly.AND, 2, more).from(ADD, 3, 2).move(2, 0);
    }

    /** Register 6 is a VALUE of a map with a MORE of 0 up to what is told, at a place. */
    private static Assembly value(int map, int more, int place) {
        return both(find(map, 6), a().ifField(Assembly.NOT_SAME, 6, 0, 2).leave(0).load(1, 7, 1, 24).field(Assembly.AND, 7, more)
            .from(ADD, 6, 7).field(ADD, 6, place).move(7, 0).move(0, 0));
    }

    private static Assembly find(int map, int register) {
        return a().copy(8, 1).storeField(8, 10, -8, 0).mapTo(1, map).copy(2, 10).field(ADD, 2, -8).call(1)
            .copy(register, 0).copy(1, 8).move(0, 0).move(8, 0);
    }

    private static void placesWithin() {
        Assembly[] pointers = {a().copy(3, 1), a().copy(3, 10), a().load(8, 3, 1, 0)};
        for (Assembly pointer : pointers) {
            for (int place = -1; place <= 1; place++) {
                within("the place of a pointer, and " + place, both(a(), pointer), both(a(), pointer).field(ADD, 3, place), place == 0);
            }
        }
        within("PACKET at 7, and at 8", packetAt(7), packetAt(8), false);
        within("PACKET at 7, and at 7", packetAt(7), packetAt(7), true);
        for (int i = 0; i < 3; i++) {
            for (int k = 0; k < 3; k++) {
                within("kinds " + i + ", " + k, both(a(), pointers[i]), both(a(), pointers[k]), i == k);
            }
        }
        within("PACKET and END", packetAt(0), a().load(8, 3, 1, 8), false);
        within("END and PACKET", a().load(8, 3, 1, 8), packetAt(0), false);
        within("a packet's MORE", moved(7), moved(7), true);
        within("a lesser MORE", moved(7), moved(3), true);
        within("a greater MORE", moved(7), moved(15), false);
        within("a value's MORE", value(0, 3, 0), value(0, 3, 0), true);
        within("a lesser one", value(0, 3, 0), value(0, 1, 0), true);
        within("a greater one", value(0, 3, 0), value(0, 7, 0), false);
        within("a value's place", value(0, 0, 0), value(0, 0, 1), false);
        within("a value's map", value(0, 0, 0), value(1, 0, 0), false);
        within("a MAYBE and a VALUE", find(0, 6), value(0, 0, 0), false);
        within("a MAYBE and 0", find(0, 6), both(find(0, 6), a().ifField(SAME, 6, 0, 2).leave(0)), false);
    }

    /** The same place and the same map, whichever they are. */
    private static void placesAndMapsWithin() {
        Assembly[] pointers = {a().copy(3, 1), a().copy(3, 10), a().load(8, 3, 1, 0)};
        int[] places = {-65535, -8, -1, 1, 8, 65535};
        for (int first : places) {
            for (int second : places) {
                for (Assembly pointer : pointers) {
                    within("places " + first + ", " + second, both(a(), pointer).field(ADD, 3, first), both(a(), pointer).field(ADD, 3, second), first == second);
                }
                within("a value's places " + first + ", " + second, value(1, 3, first), value(1, 3, second), first == second);
            }
        }
        for (int first = 0; first < 2; first++) {
            for (int second = 0; second < 2; second++) {
                within("MAPS " + first + ", " + second, a().mapTo(3, first), a().mapTo(3, second), first == second);
                within("MAYBES of " + first + ", " + second, find(first, 6), find(second, 6), first == second);
                within("VALUES of " + first + ", " + second, value(first, 1, 5), value(second, 1, 5), first == second);
            }
        }
    }

    /** Register 6 is PACKET with so much ROOM. */
    private static Assembly room(int bytes) {
        return a().load(8, 6, 1, 0).load(8, 3, 1, 8).copy(4, 6).field(ADD, 4, bytes).ifFrom(Assembly.NOT_ABOVE, 4, 3, 2).leave(0).move(4, 0);
    }

    private static void roomsWithin() {
        within("as much ROOM", room(4), room(4), true);
        within("one more", room(4), room(5), true);
        within("one less", room(4), room(3), false);
        within("none at all", room(1), a().load(8, 6, 1, 0).load(8, 3, 1, 8).move(4, 0), false);
        within("some where none is needed", a().load(8, 6, 1, 0).load(8, 3, 1, 8).move(4, 0), room(1), true);
    }

    /** Registers 6 and 7 are PACKETS of two new identities, or of one. */
    private static Assembly two(boolean isOne) {
        Assembly program = a().load(8, 2, 1, 0).load(1, 4, 1, 24).copy(6, 2).from(ADD, 6, 4).copy(7, isOne ? 6 : 2);
        return (isOne ? program : program.from(ADD, 7, 4)).move(2, 0).move(4, 0);
    }

    private static void identitiesWithin() {
        within("identity 0 and 0", packetAt(0), packetAt(0), true);
        within("identity 0 and another", a().load(8, 6, 1, 0), both(two(true), a().move(7, 0)), false);
        within("another and identity 0", both(two(true), a().move(7, 0)), a().load(8, 6, 1, 0).move(2, 0).move(4, 0).move(7, 0), false);
        within("one and one", two(true), two(true), true);
        within("two and two", two(false), two(false), true);
        within("one and two", two(true), two(false), false);
        within("two and one", two(false), two(true), false);
        within("two of them in the stack, and one", two(false).store(8, 10, -8, 7).move(7, 0), two(true).store(8, 10, -8, 7).move(7, 0), false);
        within("one in the stack, and two", two(true).store(8, 10, -8, 7).move(7, 0), two(false).store(8, 10, -8, 7).move(7, 0), false);
        within("two in the stack, and two", two(false).store(8, 10, -8, 7).move(7, 0), two(false).store(8, 10, -8, 7).move(7, 0), true);
        within("two turned", two(false), a().load(8, 2, 1, 0).load(1, 4, 1, 24).copy(7, 2).from(ADD, 7, 4).copy(6, 2).from(ADD, 6, 4).move(2, 0).move(4, 0),
            true);
        within("a MAYBE and a later one", find(0, 6), both(find(0, 7), find(0, 6)), true);
        within("two MAYBEs of one FIND and of two", both(find(0, 6), a().copy(7, 6)), both(find(0, 6), find(0, 7)), false);
        within("two MAYBEs of two FINDs and of one", both(find(0, 6), find(0, 7)), both(find(0, 6), a().copy(7, 6)), false);
        within("a MAYBE of another map", find(0, 6), find(1, 6), false);
    }

    private static void bytesWithin() {
        for (int slot = -512; slot < 0; slot += 504) {
            for (int i = 0; i < 8; i++) {
                within("byte " + i + " and none", a().storeField(1, 10, slot + i, 1), a(), false);
                within("none and byte " + i, a(), a().storeField(1, 10, slot + i, 1), true);
                within("byte " + i + " and a saved number", a().storeField(1, 10, slot + i, 1), a().storeField(8, 10, slot, 1), true);
                within("byte " + i + " and a saved pointer", a().storeField(1, 10, slot + i, 1), a().store(8, 10, slot, 1), false);
                within("a saved number and byte " + i, a().storeField(8, 10, slot, 1), a().storeField(1, 10, slot + i, 1), false);
                for (int k = 0; k < 8; k++) {
                    within("byte " + i + " and byte " + k, a().storeField(1, 10, slot + i, 1), a().storeField(1, 10, slot + k, 1), i == k);
                }
            }
        }
        within("a saved number that was broken, and one", a().storeField(8, 10, -8, 1).storeField(1, 10, -8, 1), a().storeField(8, 10, -8, 1), true);
        within("a saved number, and one that was broken", a().load(8, 3, 1, 24).store(8, 10, -8, 3).move(3, 0),
            a().storeField(8, 10, -8, 1).storeField(1, 10, -8, 1).move(3, 0), false);
        within("another slot", a().storeField(8, 10, -8, 1), a().storeField(8, 10, -16, 1), false);
    }

    /** All slots of the stack and the registers but 10 hold PACKETS of identities of their own, 74 of them; 7 perhaps that of another one. */
    private static Assembly crowd(int seventh) {
        Assembly program = a().load(8, 6, 1, 0).load(1, 7, 1, 24);
        for (int slot = -512; slot < 0; slot += 8) {
            program.copy(8, 6).from(ADD, 8, 7).store(8, 10, slot, 8);
        }
        for (int register : new int[] {0, 1, 2, 3, 4, 5, 8, 9}) {
            program.copy(register, 6).from(ADD, register, 7);
        }
        program.from(ADD, 6, 7).from(ADD, 7, 6);
        return seventh == 7 ? program.copy(7, 7) : program.copy(7, seventh);
    }

    private static void allIdentities() {
        for (int seventh : new int[] {7, 6, 1}) {
            Assembly fallen = crowd(7);
            Assembly gone = crowd(seventh);
            Assembly program = both(a().load(8, 9, 1, 16).ifField(SAME, 9, 3, fallen.size() + 1), fallen).jump(gone.size());
            both(program, gone).leave(1);
            FilterGuard guard = new FilterGuard();
            CHECK.due("two crowds", program.program(guard), 0);
            CHECK.due("two crowds, 7 is as " + seventh + ": is within", guard.fact(program.size() - 1, 0), seventh == 7 ? 1 : 2);
        }
    }

    /** A later program is explored as by a new object: nothing of the one ahead of it is left. */
    private static void oneObject() {
        Assembly deep = a().load(8, 9, 1, 16).ifField(SAME, 9, 1, 2).ifField(SAME, 9, 2, 1).storeField(8, 10, -512, 1).storeField(8, 10, -16, 1).leave(0);
        for (int i = 0; i < 4; i++) {
            deep.raw(0);
        }
        Assembly[] programs = {
            a().load(8, 9, 1, 16).storeField(8, 10, -512, 1).storeField(1, 10, -256, 1).ifField(SAME, 9, 1, 2).ifField(SAME, 9, 2, 1).move(2, 1).leave(0),
            a().load(8, 9, 1, 16).storeField(8, 10, -512, 1).ifField(SAME, 9, 1, 3).ifField(SAME, 9, 2, 2).ifField(SAME, 9, 3, 1).load(1, 0, 10, -504).exit(),
            a().load(8, 9, 1, 16).ifField(SAME, 9, 1, 2).leave(0).load(1, 0, 10, -512).exit(),
            a().load(8, 9, 1, 16).ifField(SAME, 9, 1, 2).leave(0).load(1, 0, 10, -256).exit(),
            a().load(8, 9, 1, 16).ifField(SAME, 9, 3, 0).move(2, 1).ifField(SAME, 9, 4, 0).leave(0),
            a().move(2, 0).field(ADD, 2, 1).ifField(Assembly.BELOW, 2, 30, -2).leave(1),
            a().wide(2, 5).wide(3, 6).wide(4, 7).leave(0),
            a().jump(0).jump(0).jump(0).jump(0).jump(0).leave(0),
            a().move(2, 1).move(3, 2).move(4, 3).move(5, 4).leave(0),
            a().move(0, 0).jump(-1), a().move(0, 0).call(9), deep,
            a().load(8, 6, 1, 0).load(1, 7, 1, 16).from(ADD, 6, 7).load(8, 9, 1, 16).ifField(SAME, 9, 3, 0).leave(0)};
        for (int first = 0; first < programs.length; first++) {
            for (int second = 0; second < programs.length; second++) {
                FilterGuard used = new FilterGuard();
                both(a(), programs[first]).program(used, 60 + first);
                both(a(), programs[second]).program(used, 90);
                FilterGuard fresh = new FilterGuard();
                both(a(), programs[second]).program(fresh, 90);
                new Snapshot(fresh).stays(CHECK, "program " + second + " behind program " + first, new Snapshot(used));
            }
        }
    }

    private static void facts() {
        FilterGuard differs = explored("another number at the last visit", a().load(8, 9, 1, 16).move(2, 4).ifField(SAME, 9, 3, 1).move(2, 4)
            .field(ADD, 2, 1).move(2, 0).leave(0), 100, 0);
        CHECK.due("visits", differs.fact(4, 0), 1);
        long[][] numbers = {{4, 4, 1, 5}, {4, 5, 0, 0}, {0, -1, 0, 0}, {-1, -1, 1, 0}};
        for (long[] n : numbers) {
            FilterGuard guard = new FilterGuard();
            Assembly program = a().load(8, 9, 1, 16).ifField(SAME, 9, 3, 3).move(2, (int) n[0]).move(3, 0).jump(2).move(2, (int) n[1]).move(3, 1)
                .field(ADD, 2, 1).leave(0);
            CHECK.due("a program", program.program(guard), 0);
            CHECK.due("two visits", guard.fact(7, 0), 2);
            CHECK.due("the same EXACT number of " + n[0] + ", " + n[1], guard.fact(7, 3), n[2]);
            CHECK.due("that number", guard.fact(7, 4), n[3]);
        }
        for (int first = 0; first < 2; first++) {
            Assembly ranges = first == 0 ? a().move(2, 0).jump(1).load(1, 2, 1, 24) : a().load(1, 2, 1, 24).jump(1).move(2, 64);
            FilterGuard range = explored("EXACT, and not", both(a().load(1, 9, 1, 16).ifField(SAME, 9, 3, 2), ranges).field(Assembly.AND, 2, 3)
                .field(ADD, 2, 1).leave(0), 100, 0);
            CHECK.due("visits", range.fact(5, 0), first == 0 ? 2 : 1);
            CHECK.due("not the same EXACT number", range.fact(5, 3), 0);
            CHECK.due("no number", range.fact(5, 4), 0);
        }
        FilterGuard pointer = explored("a pointer is no number", a().copy(2, 1).leave(0), 100, 0);
        CHECK.due("not EXACT", pointer.fact(0, 3), 0);
        FilterGuard load = explored("a LOAD and a WIDE are no ARITHMETIC", a().wide(2, 5).storeField(8, 10, -8, 6).load(8, 0, 10, -8).exit(), 100, 0);
        CHECK.due("WIDE", load.fact(0, 3) + load.fact(0, 4), 0);
        CHECK.due("LOAD", load.fact(3, 3) + load.fact(3, 4), 0);
        FilterGuard others = explored("what is no ARITHMETIC and no jump by a relation", a().wide(6, 5).storeField(8, 10, -8, 5).store(8, 10, -16, 6)
            .addTo(8, 10, -16, 6).load(4, 7, 10, -8).call(5).jump(0).exit(), 100, 0);
        for (int slot = 0; slot <= 8; slot++) {
            CHECK.due("visits of slot " + slot, others.fact(slot, 0), slot == 1 ? 0 : 1);
            for (int what = 1; what <= 4; what++) {
                CHECK.due("fact(" + slot + ", " + what + ")", others.fact(slot, what), 0);
            }
        }
        FilterGuard compared = explored("a relation with a fault", a().ifField(SAME, 1, 0, 0).exit(), 100, 12, 0, 1, 0, 0, 0);
        CHECK.due("it did not go", compared.fact(0, 1), 0);
        CHECK.due("it did not fall", compared.fact(0, 2), 0);
        FilterGuard fault = explored("a visit with a fault", a().move(2, 5).field(Assembly.MULTIPLY, 1, 3).exit(), 100, 11, 1, 2);
        CHECK.due("it is counted", fault.fact(1, 0), 1);
        CHECK.due("it is not looked at", fault.fact(1, 3) + fault.fact(1, 4), 0);
        CHECK.due("the one ahead of it is", fault.fact(0, 4), 5);
    }
}
