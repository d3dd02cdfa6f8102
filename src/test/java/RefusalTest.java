/** Promises 2 to 17: a call that is refused leaves all as it was, but for the tape of program(), packet() and put(). */
public final class RefusalTest {
    private static final Checker CHECK = new Checker("RefusalTest");
    private static final int FED = 20;

    private RefusalTest() {
    }

    public static void main(String[] args) {
        maps();
        programs();
        packetAndContext();
        puts();
        runs();
        questions();
        withoutProgram();
        behindFault();
        CHECK.end();
    }

    private interface Act {
        void on(FilterGuard guard);
    }

    /** Tells CONTEXT 16, and answers CLOCK; seven slots. */
    private static Assembly telling() {
        return new Assembly().load(8, 1, 1, 16).call(4).call(5).ifField(Assembly.SAME, 0, 5, 1).jump(0).copy(6, 0).exit();
    }

    /** Maps 0 (ARRAY, 2 entries of 2 bytes) and 1 (TABLE, one entry of 16 and 5 bytes, full), a packet, one number told. */
    private static FilterGuard filled() {
        FilterGuard guard = new FilterGuard();
        guard.map(0, 4, 2, 2);
        guard.map(1, 16, 5, 1);
        guard.feed(0x01000000, 0x07080000, 0, 0, 0);
        CHECK.due("put to the ARRAY", guard.put(0), 0);
        Assembly.feed(guard, new byte[] {1, 2, 3, 4, 5, 6, 7, 8, 9, 10, 11, 12, 13, 14, 15, 16, 17, 18, 19, 20, 21});
        CHECK.due("put to the TABLE", guard.put(1), 0);
        guard.context(16, 77);
        guard.clock(500);
        Assembly.packet(guard, 200, 201, 202);
        CHECK.due("the program", telling().program(guard), 0);
        CHECK.due("its run", guard.run(2), 500);
        guard.feed(0x15161718, 0x191A1B1C, 0x1D1E1F20, 0x21222324, 0x25262728);
        return guard;
    }

    /** What a refused call leaves of a guard with a program: all, and of the tape so many bytes. */
    private static void leaves(String what, int tape, Act act) {
        FilterGuard guard = filled();
        Snapshot ahead = new Snapshot(guard);
        act.on(guard);
        CHECK.due(what + ": bytes on the tape", guard.count(0), tape);
        ahead.stays(CHECK, what, new Snapshot(guard));
        if (tape > 0) {
            CHECK.due(what + ": the tape is the packet now", guard.packet(FED), true);
            CHECK.due(what + ": its first byte", guard.packetAt(0), 0x15);
            CHECK.due(what + ": its last byte", guard.packetAt(FED - 1), 0x28);
        }
        CHECK.due(what + ": CLOCK is as it was", guard.run(0), 501);
        CHECK.due(what + ": CONTEXT is as it was", guard.told(1), 77);
    }

    private static void maps() {
        int[][] wrong = {{-1, 4, 1, 1}, {2, 4, 1, 1}, {0, 3, 1, 1}, {0, 5, 1, 1}, {1, 0, 1, 1}, {1, 17, 1, 1}, {0, 4, 0, 1}, {0, 4, 65, 1},
            {1, 4, 1, 0}, {1, 4, 1, 65}};
        for (int[] w : wrong) {
            String call = "map(" + w[0] + ", " + w[1] + ", " + w[2] + ", " + w[3] + ")";
            leaves(call, FED, guard -> CHECK.illegalArgument(call, () -> guard.map(w[0], w[1], w[2], w[3])));
        }
        leaves("a map behind an accepted program", FED, guard -> CHECK.illegalState("map(0, 4, 1, 1)", () -> guard.map(0, 4, 1, 1)));
    }

    private static void programs() {
        int[][] wrong = {{0, 10}, {-1, 10}, {3, 10}, {2000, 10}, {2001, 10}, {2, 0}, {2, -1}, {2, 20001}};
        for (int[] w : wrong) {
            String call = "program(" + w[0] + ", " + w[1] + ")";
            leaves(call, 0, guard -> CHECK.illegalArgument(call, () -> guard.program(w[0], w[1])));
        }
    }

    private static void packetAndContext() {
        for (int n : new int[] {-1, 21, 2000, 2001, Integer.MAX_VALUE, Integer.MIN_VALUE}) {
            leaves("packet(" + n + ")", 0, guard -> CHECK.due("packet(" + n + ")", guard.packet(n), false));
        }
        for (int at : new int[] {-8, -1, 17, 20, 23, 63, 64, Integer.MAX_VALUE, Integer.MIN_VALUE}) {
            leaves("context(" + at + ", -1)", FED, guard -> CHECK.due("context(" + at + ", -1)", guard.context(at, -1), false));
        }
    }

    private static void puts() {
        for (int map : new int[] {-1, 2, 3, 4, Integer.MAX_VALUE, Integer.MIN_VALUE}) {
            leaves("put(" + map + ")", 0, guard -> CHECK.illegalArgument("put(" + map + ")", () -> guard.put(map)));
        }
        leaves("put of 20 bytes where key and value are 21", 0, guard -> CHECK.illegalArgument("put(1)", () -> guard.put(1)));
        leaves("put of a second key to a full TABLE", 0, guard -> {
            guard.feed(0, 0, 0, 0, 0);
            CHECK.due("put(1)", guard.put(1), -1);
        });
        leaves("put of an entry that an ARRAY has not", 0, guard -> CHECK.due("put(0)", guard.put(0), -1));
    }

    private static void runs() {
        for (int mode : new int[] {-1, 3, Integer.MAX_VALUE, Integer.MIN_VALUE}) {
            leaves("run(" + mode + ")", FED, guard -> CHECK.illegalArgument("run(" + mode + ")", () -> guard.run(mode)));
        }
    }

    private static void questions() {
        leaves("whats that are none", FED, guard -> {
            for (int what : new int[] {-1, 8, Integer.MAX_VALUE, Integer.MIN_VALUE}) {
                CHECK.due("about(" + what + ")", guard.about(what), FilterGuard.NONE);
            }
            for (int what : new int[] {-1, 3, Integer.MAX_VALUE, Integer.MIN_VALUE}) {
                CHECK.due("ran(" + what + ")", guard.ran(what), FilterGuard.NONE);
            }
            for (int what : new int[] {-1, 5, 9, 12, 13, 14, Integer.MAX_VALUE, Integer.MIN_VALUE}) {
                CHECK.due("count(" + what + ")", guard.count(what), FilterGuard.NONE);
            }
        });
        leaves("places that are none", FED, guard -> {
            for (int k : new int[] {-1, 7, Integer.MAX_VALUE, Integer.MIN_VALUE}) {
                CHECK.outOfBounds("fact(" + k + ", 0)", () -> guard.fact(k, 0));
                CHECK.outOfBounds("code(" + k + ", false)", () -> guard.code(k, false));
                CHECK.outOfBounds("code(" + k + ", true)", () -> guard.code(k, true));
            }
            CHECK.outOfBounds("fact(0, -1)", () -> guard.fact(0, -1));
            CHECK.outOfBounds("fact(0, 5)", () -> guard.fact(0, 5));
            CHECK.outOfBounds("packetAt(-1)", () -> guard.packetAt(-1));
            CHECK.outOfBounds("packetAt(3)", () -> guard.packetAt(3));
            CHECK.outOfBounds("told(-1)", () -> guard.told(-1));
            CHECK.outOfBounds("told(1)", () -> guard.told(1));
        });
        int[][] wrong = {{-1, 0, 0}, {2, 0, 0}, {0, -1, 0}, {0, 2, 0}, {1, 1, 0}, {0, 0, -1}, {0, 0, 1}, {0, 0, 99}, {0, 0, 100}, {1, 0, 116},
            {1, 0, 199}, {0, 0, 202}, {1, 0, 205}};
        leaves("entries that are none", FED, guard -> {
            for (int[] w : wrong) {
                CHECK.outOfBounds("entry(" + w[0] + ", " + w[1] + ", " + w[2] + ")", () -> guard.entry(w[0], w[1], w[2]));
            }
        });
    }

    /** No program was ever accepted, and there are four maps. */
    private static void withoutProgram() {
        FilterGuard guard = new FilterGuard();
        for (int i = 0; i < 4; i++) {
            CHECK.due("map " + i, guard.map(1, 1, 1, 1), i);
        }
        guard.feed(0, 0, 0, 0, 0);
        Snapshot ahead = new Snapshot(guard);
        CHECK.illegalState("a fifth map", () -> guard.map(1, 1, 1, 1));
        for (int mode = 0; mode < 3; mode++) {
            int asked = mode;
            CHECK.illegalState("run(" + mode + ") without a program", () -> guard.run(asked));
        }
        CHECK.due("bytes on the tape", guard.count(0), FED);
        CHECK.illegalArgument("a program without slots", () -> guard.program(0, 1));
        CHECK.due("bytes on the tape", guard.count(0), 0);
        ahead.stays(CHECK, "without a program", new Snapshot(guard));
    }

    /** What about() and fact() tell of a fault stays, too; the program that there was is none any more. */
    private static void behindFault() {
        FilterGuard guard = filled();
        CHECK.due("the tape is used up", guard.packet(-1), false);
        CHECK.due("a fault", new Assembly().move(2, 9).load(1, 0, 1, 64).exit().program(guard), 14);
        Snapshot ahead = new Snapshot(guard);
        CHECK.due("no program", guard.count(3), 0);
        CHECK.illegalState("run(1) behind a fault", () -> guard.run(1));
        CHECK.illegalState("a map when once a program was accepted", () -> guard.map(0, 4, 1, 1));
        guard.feed(0, 0, 0, 0, 0);
        CHECK.illegalArgument("too few bytes", () -> guard.program(3, 1));
        CHECK.due("bytes on the tape", guard.count(0), 0);
        ahead.stays(CHECK, "behind a fault", new Snapshot(guard));
        CHECK.due("the fault", guard.about(0), 14);
        CHECK.due("its slot", guard.about(1), 1);
        CHECK.due("the fact of slot 0", guard.fact(0, 4), 9);
        CHECK.due("the same program again", telling().program(guard), 0);
        CHECK.due("CLOCK goes on", guard.run(1), 501);
        CHECK.due("runs go on", guard.count(4), 2);
    }
}
