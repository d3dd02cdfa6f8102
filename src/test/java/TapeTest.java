/** Promises 1, 2, 8, 9, 12, 13 and 17: a new object, and what comes to it. */
public final class TapeTest {
    private static final Checker CHECK = new Checker("TapeTest");

    private TapeTest() {
    }

    public static void main(String[] args) {
        newObject();
        feed();
        packet();
        context();
        clock();
        usedUp();
        CHECK.end();
    }

    private static void newObject() {
        FilterGuard guard = new FilterGuard();
        CHECK.due("NONE", FilterGuard.NONE, -1);
        for (int what = 0; what <= 4; what++) {
            CHECK.due("count(" + what + ") of a new object", guard.count(what), 0);
        }
        for (int what : new int[] {-1, 5, 9, 10, 13, 14, 1000, Integer.MAX_VALUE, Integer.MIN_VALUE}) {
            CHECK.due("count(" + what + ") of a new object", guard.count(what), -1);
        }
        for (int what = -1; what <= 8; what++) {
            CHECK.due("about(" + what + ") of a new object", guard.about(what), -1);
            CHECK.due("ran(" + what + ") of a new object", guard.ran(what), -1);
        }
        CHECK.outOfBounds("packetAt(0) of an empty packet", () -> guard.packetAt(0));
        CHECK.outOfBounds("told(0) of a new object", () -> guard.told(0));
        CHECK.outOfBounds("fact(0, 0) of a new object", () -> guard.fact(0, 0));
        CHECK.outOfBounds("code(0, false) of a new object", () -> guard.code(0, false));
        CHECK.outOfBounds("code(0, true) of a new object", () -> guard.code(0, true));
        CHECK.outOfBounds("entry(0, 0, 0) of a new object", () -> guard.entry(0, 0, 0));
        CHECK.illegalState("run(0) of a new object", () -> guard.run(0));
        CHECK.illegalArgument("put(0) of a new object", () -> guard.put(0));
        FilterGuard fresh = new FilterGuard();
        int fault = new Assembly().load(8, 6, 1, 16).load(8, 7, 1, 56).from(Assembly.OR, 6, 7)
            .call(5).from(Assembly.OR, 0, 6).load(8, 2, 10, -8).exit().program(fresh);
        CHECK.due("a stack byte that was never written", fault, 15);
        fault = new Assembly().load(8, 6, 1, 16).load(8, 7, 1, 56).from(Assembly.OR, 6, 7)
            .call(5).from(Assembly.OR, 0, 6).exit().program(fresh);
        CHECK.due("a program of CONTEXT and CLOCK", fault, 0);
        CHECK.due("CONTEXT and CLOCK are 0 at first", fresh.run(0), 0);
    }

    private static void feed() {
        FilterGuard guard = new FilterGuard();
        CHECK.due("feed", guard.feed(0x01020384, 0x05060708, -1, 0x7FFFFFFF, Integer.MIN_VALUE), true);
        CHECK.due("bytes on the tape", guard.count(0), 20);
        CHECK.due("packet of what was fed", guard.packet(20), true);
        int[] want = {1, 2, 3, 0x84, 5, 6, 7, 8, 255, 255, 255, 255, 127, 255, 255, 255, 128, 0, 0, 0};
        for (int k = 0; k < 20; k++) {
            CHECK.due("packetAt(" + k + ")", guard.packetAt(k), want[k]);
        }
        // The tape's end lies behind the 512 calls of which the document speaks; this class keeps it all the same.
        for (int i = 0; i < 65536 / 20; i++) {
            CHECK.due("feed " + i, guard.feed(i, i, i, i, i), true);
        }
        CHECK.due("bytes on a full tape", guard.count(0), 65520);
        CHECK.due("one feed too many", guard.feed(1, 2, 3, 4, 5), false);
        CHECK.due("bytes on a full tape still", guard.count(0), 65520);
        CHECK.due("packet of a full tape", guard.packet(2000), true);
        CHECK.due("byte 1999 of it", guard.packetAt(1999), 99);
    }

    private static void packet() {
        FilterGuard guard = new FilterGuard();
        Assembly.packet(guard, 1, 2, 3, 200);
        CHECK.due("packetAt(3)", guard.packetAt(3), 200);
        CHECK.outOfBounds("packetAt(4)", () -> guard.packetAt(4));
        CHECK.outOfBounds("packetAt(-1)", () -> guard.packetAt(-1));
        CHECK.outOfBounds("packetAt of the least int", () -> guard.packetAt(Integer.MIN_VALUE));
        guard.feed(9, 9, 9, 9, 9);
        CHECK.due("packet(21) of 20 bytes", guard.packet(21), false);
        CHECK.due("the tape is used up", guard.count(0), 0);
        CHECK.due("the packet stays", guard.packetAt(3), 200);
        guard.feed(9, 9, 9, 9, 9);
        CHECK.due("packet(-1)", guard.packet(-1), false);
        CHECK.due("the tape is used up", guard.count(0), 0);
        CHECK.due("packet(1) of an empty tape", guard.packet(1), false);
        for (int i = 0; i < 101; i++) {
            guard.feed(i, i, i, i, i);
        }
        CHECK.due("packet(2001)", guard.packet(2001), false);
        CHECK.due("the packet stays", guard.packetAt(3), 200);
        CHECK.due("packet(0)", guard.packet(0), true);
        CHECK.outOfBounds("packetAt(0) of an empty packet", () -> guard.packetAt(0));
    }

    private static void context() {
        FilterGuard guard = new FilterGuard();
        for (int at : new int[] {-8, -1, 1, 4, 7, 9, 60, 63, 64, 72, Integer.MIN_VALUE, Integer.MAX_VALUE}) {
            CHECK.due("context(" + at + ")", guard.context(at, -1), false);
        }
        for (int at = 0; at < 64; at += 8) {
            CHECK.due("context(" + at + ")", guard.context(at, 0x1112131415161700L + at), true);
        }
        Assembly.packet(guard, 5, 6);
        Assembly sums = new Assembly().load(8, 0, 1, 56).load(1, 2, 1, 16).from(Assembly.ADD, 0, 2)
            .load(2, 2, 1, 18).from(Assembly.ADD, 0, 2).load(4, 2, 1, 28).from(Assembly.ADD, 0, 2).exit();
        CHECK.due("a program that loads CONTEXT", sums.program(guard), 0);
        long want = 0x1112131415161738L + 0x10 + 0x1516 + 0x11121314L;
        CHECK.due("what it loads", guard.run(0), want);
        CHECK.due("what it loads", guard.run(1), want);
        Assembly length = new Assembly().load(8, 2, 1, 0).load(8, 0, 1, 8).from(Assembly.SUBTRACT, 0, 2).exit();
        CHECK.due("a program that loads PACKET and END", length.program(guard), 0);
        CHECK.due("what is told for 0 .. 15 is not seen", guard.run(1), 2);
    }

    private static void clock() {
        FilterGuard guard = new FilterGuard();
        Assembly times = new Assembly().call(5).copy(6, 0).call(5).from(Assembly.MULTIPLY, 0, 6).exit();
        CHECK.due("a program that calls CLOCK", times.program(guard), 0);
        CHECK.due("0 * 1", guard.run(0), 0);
        CHECK.due("2 * 3", guard.run(1), 6);
        guard.clock(-5);
        CHECK.due("-5 * -4", guard.run(2), 20);
        CHECK.due("-3 * -2", guard.run(0), 6);
        guard.clock(Long.MAX_VALUE);
        CHECK.due("it wraps", guard.run(0), Long.MAX_VALUE * Long.MIN_VALUE);
    }

    private static void usedUp() {
        FilterGuard guard = new FilterGuard();
        guard.map(1, 1, 1, 1);
        guard.feed(0, 0, 0, 0, 0);
        CHECK.illegalArgument("program(0, 1)", () -> guard.program(0, 1));
        CHECK.due("the tape behind a program that threw", guard.count(0), 0);
        guard.feed(0, 0, 0, 0, 0);
        CHECK.due("a program of faults", guard.program(1, 1), 1);
        CHECK.due("the tape behind a fault", guard.count(0), 0);
        guard.feed(0, 0, 0, 0, 0);
        CHECK.illegalArgument("put(1)", () -> guard.put(1));
        CHECK.due("the tape behind a put that threw", guard.count(0), 0);
        guard.feed(0, 0, 0, 0, 0);
        CHECK.due("put(0)", guard.put(0), 0);
        CHECK.due("the tape behind a put", guard.count(0), 0);
    }
}
