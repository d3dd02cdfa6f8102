/** Promises 3, 10, 11 and 17, and section F: maps, from outside and by the helpers. */
public final class MapTest {
    private static final Checker CHECK = new Checker("MapTest");

    private MapTest() {
    }

    public static void main(String[] args) {
        making();
        makingTooMany();
        array();
        table();
        wrongPut();
        wrongEntry();
        helpersOfTable();
        helpersOfArray();
        deletedBytesStay();
        CHECK.end();
    }

    private static int put(FilterGuard guard, int map, int... bytes) {
        byte[] all = new byte[bytes.length];
        for (int i = 0; i < bytes.length; i++) {
            all[i] = (byte) bytes[i];
        }
        Assembly.feed(guard, all);
        return guard.put(map);
    }

    private static void making() {
        int[][] wrong = {
            {-1, 4, 8, 8}, {2, 4, 8, 8}, {0, 3, 8, 8}, {0, 5, 8, 8}, {0, 0, 8, 8}, {1, 0, 8, 8}, {1, 17, 8, 8}, {1, -1, 8, 8},
            {0, 4, 0, 8}, {0, 4, 65, 8}, {0, 4, -1, 8}, {0, 4, 8, 0}, {0, 4, 8, 65}, {0, 4, 8, -1},
            {1, 4, 0, 8}, {1, 4, 65, 8}, {1, 4, 8, 0}, {1, 4, 8, 65}, {Integer.MAX_VALUE, 4, 8, 8},
            {0, 4, Integer.MAX_VALUE, 8}, {0, 4, 8, Integer.MIN_VALUE}};
        FilterGuard guard = new FilterGuard();
        for (int[] w : wrong) {
            CHECK.illegalArgument("map(" + w[0] + ", " + w[1] + ", " + w[2] + ", " + w[3] + ")",
                () -> guard.map(w[0], w[1], w[2], w[3]));
        }
        CHECK.due("maps behind wrong ones", guard.count(1), 0);
        CHECK.due("the least array", guard.map(0, 4, 1, 1), 0);
        CHECK.due("the greatest array", guard.map(0, 4, 64, 64), 1);
        CHECK.due("the least table", guard.map(1, 1, 1, 1), 2);
        CHECK.due("the greatest table", guard.map(1, 16, 64, 64), 3);
        CHECK.due("maps", guard.count(1), 4);
        CHECK.due("entries of an array are there", guard.count(10), 1);
        CHECK.due("entries of an array are there", guard.count(11), 64);
        CHECK.due("entries of a table are free", guard.count(12), 0);
        CHECK.due("entries of a table are free", guard.count(13), 0);
        CHECK.due("entries of no map", guard.count(14), -1);
    }

    private static void makingTooMany() {
        FilterGuard guard = new FilterGuard();
        for (int i = 0; i < 4; i++) {
            guard.map(1, 4, 4, 4);
        }
        CHECK.illegalState("a fifth map", () -> guard.map(1, 4, 4, 4));
        CHECK.illegalArgument("a fifth map that can't be", () -> guard.map(2, 4, 4, 4));
        FilterGuard other = new FilterGuard();
        CHECK.due("a refused program", new Assembly().exit().program(other), 18);
        CHECK.due("a map behind a refused program", other.map(0, 4, 4, 4), 0);
        CHECK.due("an accepted program", new Assembly().leave(1).program(other), 0);
        CHECK.illegalState("a map behind an accepted program", () -> other.map(0, 4, 4, 4));
        CHECK.due("a refused program", new Assembly().exit().program(other), 18);
        CHECK.illegalState("a map when once a program was accepted", () -> other.map(0, 4, 4, 4));
        CHECK.due("maps", other.count(1), 1);
    }

    private static void array() {
        FilterGuard guard = new FilterGuard();
        guard.map(0, 4, 3, 2);
        CHECK.due("entry 1 is there", guard.entry(0, 1, 0), 1);
        CHECK.due("its value is 0", guard.entry(0, 1, 202), 0);
        CHECK.due("put of entry 1", put(guard, 0, 1, 0, 0, 0, 7, 8, 255), 0);
        CHECK.due("value byte 0", guard.entry(0, 1, 200), 7);
        CHECK.due("value byte 1", guard.entry(0, 1, 201), 8);
        CHECK.due("value byte 2", guard.entry(0, 1, 202), 255);
        CHECK.due("entry 0 as it was", guard.entry(0, 0, 200), 0);
        CHECK.due("put of entry 2", put(guard, 0, 2, 0, 0, 0, 7, 8, 9), -1);
        CHECK.due("put of entry 256", put(guard, 0, 0, 1, 0, 0, 7, 8, 9), -1);
        CHECK.due("put of a key without sign", put(guard, 0, 255, 255, 255, 255, 7, 8, 9), -1);
        CHECK.due("put of a key without sign", put(guard, 0, 0, 0, 0, 128, 7, 8, 9), -1);
        CHECK.due("entries", guard.count(10), 2);
        CHECK.outOfBounds("a key byte of an array", () -> guard.entry(0, 1, 100));
    }

    private static void table() {
        FilterGuard guard = new FilterGuard();
        guard.map(1, 2, 1, 2);
        CHECK.due("entry 0 is free", guard.entry(0, 0, 0), 0);
        CHECK.due("value byte of a free one", guard.entry(0, 0, 200), 0);
        CHECK.outOfBounds("key byte of a free one", () -> guard.entry(0, 0, 100));
        CHECK.due("put of a key", put(guard, 0, 5, 250, 11), 0);
        CHECK.due("entry 0 is there", guard.entry(0, 0, 0), 1);
        CHECK.due("key byte 0", guard.entry(0, 0, 100), 5);
        CHECK.due("key byte 1", guard.entry(0, 0, 101), 250);
        CHECK.due("value", guard.entry(0, 0, 200), 11);
        CHECK.due("entries", guard.count(10), 1);
        CHECK.due("put of another key", put(guard, 0, 5, 251, 22), 0);
        CHECK.due("it has the least free place", guard.entry(0, 1, 101), 251);
        CHECK.due("put of a third key", put(guard, 0, 6, 250, 33), -1);
        CHECK.due("put of the first key again", put(guard, 0, 5, 250, 44), 0);
        CHECK.due("its value", guard.entry(0, 0, 200), 44);
        CHECK.due("the other value", guard.entry(0, 1, 200), 22);
        CHECK.due("entries", guard.count(10), 2);
    }

    private static void wrongPut() {
        FilterGuard guard = new FilterGuard();
        guard.map(1, 16, 8, 2);
        guard.feed(1, 2, 3, 4, 5);
        CHECK.illegalArgument("put of too few bytes", () -> guard.put(0));
        CHECK.due("the tape is used up", guard.count(0), 0);
        guard.feed(1, 2, 3, 4, 5);
        guard.feed(1, 2, 3, 4, 5);
        CHECK.illegalArgument("put(-1)", () -> guard.put(-1));
        guard.feed(1, 2, 3, 4, 5);
        guard.feed(1, 2, 3, 4, 5);
        CHECK.illegalArgument("put(1)", () -> guard.put(1));
        CHECK.illegalArgument("put(0) of an empty tape", () -> guard.put(0));
        CHECK.due("entries", guard.count(10), 0);
        FilterGuard exact = new FilterGuard();
        exact.map(1, 16, 4, 1);
        exact.feed(1, 2, 3, 4, 5);
        CHECK.due("put of just as many bytes", exact.put(0), 0);
    }

    private static void wrongEntry() {
        FilterGuard guard = new FilterGuard();
        guard.map(1, 2, 3, 4);
        put(guard, 0, 1, 2, 3, 4, 5);
        int[][] wrong = {
            {-1, 0, 0}, {1, 0, 0}, {4, 0, 0}, {0, -1, 0}, {0, 4, 0}, {0, 0, -1}, {0, 0, 1}, {0, 0, 99}, {0, 0, 102}, {0, 0, 199},
            {0, 0, 203}, {0, 0, Integer.MAX_VALUE}, {0, 0, Integer.MIN_VALUE}, {0, 1, 100}, {0, Integer.MIN_VALUE, 0}};
        for (int[] w : wrong) {
            CHECK.outOfBounds("entry(" + w[0] + ", " + w[1] + ", " + w[2] + ")", () -> guard.entry(w[0], w[1], w[2]));
        }
        CHECK.due("the last value byte", guard.entry(0, 0, 202), 5);
        CHECK.due("the last value byte of a free one", guard.entry(0, 3, 202), 0);
    }

    /** A program that calls a helper with key and value bytes from CONTEXT 16 and 24 on. */
    private static Assembly helper(int map, int helper) {
        return new Assembly().load(8, 6, 1, 16).store(8, 10, -8, 6).load(8, 7, 1, 24).store(8, 10, -16, 7)
            .mapTo(1, map).copy(2, 10).field(Assembly.ADD, 2, -8).copy(3, 10).field(Assembly.ADD, 3, -16)
            .call(helper).exit();
    }

    private static void context(FilterGuard guard, long key, long value) {
        guard.context(16, key);
        guard.context(24, value);
    }

    private static void helpersOfTable() {
        FilterGuard guard = new FilterGuard();
        guard.map(1, 8, 8, 2);
        CHECK.due("DELETE", helper(0, 3).program(guard), 0);
        context(guard, 77, 88);
        CHECK.due("DELETE without an entry", guard.run(0), -1);
        CHECK.due("UPDATE", helper(0, 2).program(guard), 0);
        CHECK.due("UPDATE of a new key", guard.run(0), 0);
        CHECK.due("its key", guard.entry(0, 0, 100), 77);
        CHECK.due("its value", guard.entry(0, 0, 200), 88);
        context(guard, 78, 89);
        CHECK.due("UPDATE of another key", guard.run(1), 0);
        context(guard, 79, 90);
        CHECK.due("UPDATE of a full table", guard.run(2), -1);
        context(guard, 77, -1);
        CHECK.due("UPDATE of an old key", guard.run(1), 0);
        CHECK.due("its value", guard.entry(0, 0, 207), 255);
        CHECK.due("DELETE", helper(0, 3).program(guard), 0);
        CHECK.due("DELETE of an entry", guard.run(1), 0);
        CHECK.due("it is free", guard.entry(0, 0, 0), 0);
        CHECK.due("its bytes stay", guard.entry(0, 0, 200), 255);
        CHECK.due("DELETE again", guard.run(1), -1);
        CHECK.due("UPDATE", helper(0, 2).program(guard), 0);
        context(guard, 80, 91);
        CHECK.due("UPDATE of a new key", guard.run(1), 0);
        CHECK.due("it has the least free place", guard.entry(0, 0, 100), 80);
        CHECK.due("entries", guard.count(10), 2);
    }

    private static void helpersOfArray() {
        FilterGuard guard = new FilterGuard();
        guard.map(0, 4, 8, 3);
        CHECK.due("UPDATE", helper(0, 2).program(guard), 0);
        context(guard, 2, 99);
        CHECK.due("UPDATE of entry 2", guard.run(0), 0);
        CHECK.due("its value", guard.entry(0, 2, 200), 99);
        context(guard, 3, 99);
        CHECK.due("UPDATE of entry 3", guard.run(0), -1);
        context(guard, 0xFFFFFFFFL, 99);
        CHECK.due("UPDATE of the greatest key", guard.run(0), -1);
        CHECK.due("DELETE", helper(0, 3).program(guard), 0);
        context(guard, 2, 0);
        CHECK.due("DELETE of an array's entry", guard.run(0), -1);
        CHECK.due("it is there", guard.entry(0, 2, 0), 1);
        Assembly find = new Assembly().load(8, 6, 1, 16).store(8, 10, -8, 6).mapTo(1, 0).copy(2, 10)
            .field(Assembly.ADD, 2, -8).call(1).ifField(Assembly.NOT_SAME, 0, 0, 2).leave(-7).load(8, 0, 0, 0).exit();
        CHECK.due("FIND", find.program(guard), 0);
        for (int mode = 0; mode < 3; mode++) {
            context(guard, 2, 0);
            CHECK.due("FIND of entry 2", guard.run(mode), 99);
            context(guard, 3, 0);
            CHECK.due("FIND of entry 3", guard.run(mode), -7);
        }
    }

    private static void deletedBytesStay() {
        FilterGuard guard = new FilterGuard();
        guard.map(1, 1, 8, 2);
        put(guard, 0, 5, 1, 0, 0, 0, 0, 0, 0, 0);
        Assembly program = new Assembly().storeField(8, 10, -8, 5).storeField(8, 10, -16, 6).storeField(8, 10, -24, 50)
            .mapTo(1, 0).copy(2, 10).field(Assembly.ADD, 2, -8).call(1).ifField(Assembly.NOT_SAME, 0, 0, 1).exit()
            .copy(6, 0)
            .mapTo(1, 0).copy(2, 10).field(Assembly.ADD, 2, -8).call(3)
            .load(8, 7, 6, 0)
            .mapTo(1, 0).copy(2, 10).field(Assembly.ADD, 2, -16).copy(3, 10).field(Assembly.ADD, 3, -24).call(2)
            .load(8, 8, 6, 0).copy(0, 7).field(Assembly.MULTIPLY, 0, 1000).from(Assembly.ADD, 0, 8).exit();
        CHECK.due("a program that keeps a value's pointer", program.program(guard), 0);
        CHECK.due("it sees the place's bytes", guard.run(0), 1050);
        CHECK.due("without the key FIND is 0", guard.run(2), 0);
    }
}
