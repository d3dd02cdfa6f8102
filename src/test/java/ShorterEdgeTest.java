/** Promise 7, section G: what of a program is just left out of the SHORTER one, and what just is not. */
public final class ShorterEdgeTest {
    private static final Checker CHECK = new Checker("ShorterEdgeTest");
    private static final int SAME = Assembly.SAME;

    private ShorterEdgeTest() {
    }

    public static void main(String[] args) {
        offsetsOfMemory();
        jumpsLeftOut();
        jumpsBack();
        relations();
        exactNumbers();
        noVisits();
        farJumps();
        CHECK.end();
    }

    private static Assembly a() {
        return new Assembly();
    }

    private static void shorter(String what, Assembly program, Assembly want) {
        FilterGuard guard = new FilterGuard();
        guard.map(0, 4, 8, 4);
        CHECK.due(what, program.program(guard), 0);
        CHECK.due(what + ": slots", guard.about(7), want.size());
        for (int k = 0; k < want.size() && k < guard.about(7); k++) {
            CHECK.due(what + ": slot " + k, guard.code(k, true), want.word(k));
        }
        CHECK.outOfBounds(what + ": a slot behind", () -> guard.code(want.size(), true));
        for (int k = 0; k < program.size(); k++) {
            CHECK.due(what + ": as it was, slot " + k, guard.code(k, false), program.word(k));
        }
        long answer = guard.run(0);
        CHECK.due(what + ": mode 1", guard.run(1), answer);
        CHECK.due(what + ": mode 2", guard.run(2), answer);
    }

    /** An OFFSET that is none of a jump stays, though slots are left out around it. */
    private static void offsetsOfMemory() {
        Assembly tail = a();
        for (int place = -8; place >= -64; place -= 8) {
            tail.storeField(8, 10, place, place).load(8, 2, 10, place).store(8, 10, place, 2).addTo(8, 10, place, 2);
        }
        for (int at = 16; at < 32; at++) {
            tail.load(1, 3, 1, at);
        }
        tail.load(8, 0, 10, -8).exit();
        Assembly program = a().jump(2).move(9, 1).move(9, 2);
        for (int i = 0; i < tail.size(); i++) {
            program.raw(tail.word(i));
        }
        shorter("OFFSETS of memory", program, tail);
    }

    private static void jumpsLeftOut() {
        shorter("a jump to the next slot", a().load(1, 0, 1, 16).jump(0).exit(), a().load(1, 0, 1, 16).exit());
        shorter("a jump over one that is left out", a().load(1, 0, 1, 16).jump(1).move(0, 1).exit(), a().load(1, 0, 1, 16).exit());
        Assembly over = a().load(1, 0, 1, 16).ifField(SAME, 0, 1, 1).jump(1).load(1, 0, 1, 17).exit();
        shorter("a jump over one that is left", over, over);
        shorter("the last is left out first", a().load(1, 0, 1, 16).jump(1).jump(1).jump(-2).exit(), a().load(1, 0, 1, 16).jump(1).jump(1).jump(-2).exit());
        shorter("then one over it", a().load(1, 0, 1, 16).ifField(SAME, 0, 1, 1).jump(2).jump(0).jump(0).exit(),
            a().load(1, 0, 1, 16).ifField(SAME, 0, 1, 0).exit());
        shorter("a relation that went alone, to the next", a().load(1, 0, 1, 16).ifField(Assembly.BELOW, 0, 256, 0).exit(), a().load(1, 0, 1, 16).exit());
        shorter("a relation with both ways to the next stays", a().load(1, 0, 1, 16).ifField(Assembly.BELOW, 0, 255, 0).exit(),
            a().load(1, 0, 1, 16).ifField(Assembly.BELOW, 0, 255, 0).exit());
    }

    private static void jumpsBack() {
        Assembly back = a().jump(2).load(1, 0, 1, 16).exit().jump(-3);
        shorter("a jump back stays, and one over it", back, back);
        shorter("a jump back over one that is left out", a().jump(3).load(1, 0, 1, 16).exit().move(0, 1).jump(-4),
            a().jump(2).load(1, 0, 1, 16).exit().jump(-3));
        Assembly loop = a().load(1, 0, 1, 16).move(2, 0).field(Assembly.ADD, 2, 1).ifField(Assembly.BELOW, 2, 3, -2).exit();
        shorter("a loop", loop, loop);
        shorter("a loop with one left out inside", a().load(1, 0, 1, 16).move(2, 0).field(Assembly.ADD, 2, 1).jump(1).move(3, 0)
            .ifField(Assembly.BELOW, 2, 3, -4).exit(), a().load(1, 0, 1, 16).move(2, 0).field(Assembly.ADD, 2, 1).ifField(Assembly.BELOW, 2, 3, -2).exit());
    }

    private static void relations() {
        shorter("FELL alone", a().load(1, 0, 1, 16).ifField(Assembly.ABOVE, 0, 255, 1).exit().load(1, 0, 1, 17).exit(), a().load(1, 0, 1, 16).exit());
        Assembly both = a().load(1, 0, 1, 16).ifField(Assembly.ABOVE, 0, 254, 1).exit().load(1, 0, 1, 17).exit();
        shorter("both", both, both);
        shorter("WENT alone, back", a().jump(2).load(1, 0, 1, 16).exit().move(2, 1).ifField(SAME, 2, 1, -4).exit(),
            a().jump(2).load(1, 0, 1, 16).exit().move(2, 1).jump(-4));
        shorter("WENT alone, narrow", a().load(1, 0, 1, 16).ifNarrowField(Assembly.BELOW, 0, 256, 1).move(0, 1).exit(), a().load(1, 0, 1, 16).exit());
    }

    private static void exactNumbers() {
        shorter("EXACT by bounds", a().load(1, 2, 1, 16).field(Assembly.AND, 2, 0).load(1, 0, 1, 16).exit(),
            a().load(1, 2, 1, 16).move(2, 0).load(1, 0, 1, 16).exit());
        Assembly range = a().load(1, 2, 1, 16).field(Assembly.AND, 2, 1).load(1, 0, 1, 16).exit();
        shorter("not EXACT", range, range);
        shorter("TO stays", a().load(1, 0, 1, 16).move(9, 3).field(Assembly.ADD, 9, 4).copy(8, 9).exit(),
            a().load(1, 0, 1, 16).move(9, 3).move(9, 7).move(8, 7).exit());
        shorter("a narrow MOVE", a().load(1, 0, 1, 16).narrowField(Assembly.MOVE, 2, 5).exit(), a().load(1, 0, 1, 16).move(2, 5).exit());
        Assembly wide = a().load(1, 0, 1, 16).narrowField(Assembly.MOVE, 2, -1).exit();
        shorter("a narrow MOVE of more than 2^31", wide, wide);
        Assembly number = a().load(1, 0, 1, 16).wide(2, 5).exit();
        shorter("a WIDE is no ARITHMETIC", number, number);
    }

    private static void noVisits() {
        shorter("all that is behind EXIT", a().load(1, 0, 1, 16).exit().wide(2, 5).mapTo(3, 0).storeField(8, 10, -8, 1).load(8, 2, 10, -8)
            .store(8, 10, -8, 2).addTo(8, 10, -8, 2).call(5).ifField(SAME, 0, 1, -3).jump(-2).exit(), a().load(1, 0, 1, 16).exit());
        shorter("a WIDE between", a().load(1, 0, 1, 16).jump(2).wide(2, 5).exit(), a().load(1, 0, 1, 16).exit());
        Assembly wide = a().load(1, 0, 1, 16).ifField(SAME, 0, 1, 2).wide(2, 5).exit();
        shorter("a WIDE that is gone over", wide, wide);
    }

    /** A jump of many slots is told anew by what is left out between. */
    private static void farJumps() {
        Assembly program = a().load(1, 0, 1, 16).ifField(SAME, 0, 1, 202);
        Assembly want = a().load(1, 0, 1, 16).ifField(SAME, 0, 1, 100);
        for (int i = 0; i < 100; i++) {
            program.jump(0).load(1, 2, 1, 17);
            want.load(1, 2, 1, 17);
        }
        program.jump(1).move(2, 0).load(1, 2, 1, 18).exit();
        want.load(1, 2, 1, 18).exit();
        shorter("far jumps", program, want);
    }
}
