import java.util.Arrays;

/** Promises 1 to 17, sections F and H: the last that a call takes, and the first that it refuses. */
public final class LimitTest {
    private static final Checker CHECK = new Checker("LimitTest");

    private LimitTest() {
    }

    public static void main(String[] args) {
        newObject();
        tape();
        mapNumbers();
        mapsAndPrograms();
        slotsAndBytes();
        budgets();
        aboutFaultsOfForm();
        aboutOtherFaults();
        factsAndCode();
        packets();
        contexts();
        bytesOfPut();
        bytesOfEntries();
        clocks();
        modes();
        counts();
        CHECK.end();
    }

    private static Assembly a() {
        return new Assembly();
    }

    private static byte[] row(int first, int bytes) {
        byte[] row = new byte[bytes];
        for (int i = 0; i < bytes; i++) {
            row[i] = (byte) (first + i);
        }
        return row;
    }

    private static void newObject() {
        FilterGuard guard = new FilterGuard();
        Assembly all = a().load(8, 6, 1, 16);
        for (int at = 24; at < 64; at += 8) {
            all.load(8, 7, 1, at).from(Assembly.OR, 6, 7);
        }
        CHECK.due("a program", all.call(5).from(Assembly.OR, 0, 6).exit().program(guard), 0);
        for (int mode = 0; mode < 3; mode++) {
            CHECK.due("CONTEXT and CLOCK of a new object", guard.run(mode), mode);
            CHECK.due("bytes of its packet", guard.ran(2), 0);
        }
        CHECK.due("numbers told", guard.count(2), 0);
    }

    private static void tape() {
        FilterGuard guard = new FilterGuard();
        for (int i = 1; i <= 400; i++) {
            CHECK.due("feed " + i, guard.feed(i, 0, 0, 0, i), true);
        }
        CHECK.due("bytes of 400 feeds", guard.count(0), 8000);
        CHECK.due("packet(20) of them", guard.packet(20), true);
        CHECK.due("all are used up", guard.count(0), 0);
        CHECK.due("the first one's byte", guard.packetAt(3), 1);
        CHECK.due("nothing is left for another", guard.packet(1), false);
        CHECK.due("but for an empty one", guard.packet(0), true);
        CHECK.due("a feed of an empty tape", guard.feed(0x0A0B0C0D, 0, 0, 0, 0x0E0F1011), true);
        CHECK.due("it is the first again", guard.packet(20), true);
        CHECK.due("byte 0", guard.packetAt(0), 10);
        CHECK.due("byte 19", guard.packetAt(19), 17);
    }

    /** Its end lies behind the 512 calls of which the document speaks, as do 2000 slots; this class keeps both all the same. */
    private static FilterGuard full() {
        FilterGuard guard = new FilterGuard();
        Assembly.feed(guard, row(0, 100));
        for (int i = 5; i < 3276; i++) {
            guard.feed(-1, -1, -1, -1, -1);
        }
        return guard;
    }

    private static void mapNumbers() {
        for (int keyBytes = -1; keyBytes <= 18; keyBytes++) {
            int asked = keyBytes;
            FilterGuard guard = new FilterGuard();
            if (keyBytes >= 1 && keyBytes <= 16) {
                CHECK.due("a TABLE of keys of " + keyBytes, guard.map(1, keyBytes, 1, 1), 0);
            } else {
                CHECK.illegalArgument("a TABLE of keys of " + keyBytes, () -> guard.map(1, asked, 1, 1));
            }
            if (keyBytes != 4) {
                CHECK.illegalArgument("an ARRAY of keys of " + keyBytes, () -> guard.map(0, asked, 1, 1));
            }
        }
        for (int kind = 0; kind < 2; kind++) {
            int asked = kind;
            FilterGuard guard = new FilterGuard();
            CHECK.illegalArgument("values of 0 bytes", () -> guard.map(asked, 4, 0, 1));
            CHECK.illegalArgument("values of 65 bytes", () -> guard.map(asked, 4, 65, 1));
            CHECK.illegalArgument("0 entries", () -> guard.map(asked, 4, 1, 0));
            CHECK.illegalArgument("65 entries", () -> guard.map(asked, 4, 1, 65));
            CHECK.due("values of 1 byte, 64 entries", guard.map(kind, 4, 1, 64), 0);
            CHECK.due("values of 64 bytes, 1 entry", guard.map(kind, 4, 64, 1), 1);
            CHECK.illegalArgument("kind -1", () -> guard.map(-1, 4, 1, 1));
            CHECK.illegalArgument("kind 2", () -> guard.map(2, 4, 1, 1));
            CHECK.due("maps", guard.count(1), 2);
        }
    }

    private static void mapsAndPrograms() {
        FilterGuard guard = new FilterGuard();
        for (int i = 0; i < 3; i++) {
            CHECK.due("map " + i, guard.map(i % 2, 4, 1, 1), i);
        }
        CHECK.due("a program with a fault", a().exit().program(guard), 18);
        guard.feed(0, 0, 0, 0, 0);
        CHECK.illegalArgument("a program that is refused", () -> guard.program(3, 1));
        CHECK.due("the fourth map", guard.map(1, 4, 1, 1), 3);
        CHECK.illegalState("a fifth map", () -> guard.map(1, 4, 1, 1));
        CHECK.due("maps", guard.count(1), 4);
        CHECK.due("a program of the last map", a().mapTo(1, 3).leave(0).program(guard), 0);
        CHECK.due("a program of no map", a().mapTo(1, 4).leave(0).program(guard), 4);
        FilterGuard accepted = new FilterGuard();
        CHECK.due("an accepted program", a().leave(0).program(accepted), 0);
        CHECK.illegalState("a first map behind it", () -> accepted.map(1, 4, 1, 1));
        CHECK.due("maps", accepted.count(1), 0);
        CHECK.due("a fault", a().exit().program(accepted), 18);
        CHECK.illegalState("a map behind both", () -> accepted.map(1, 4, 1, 1));
    }

    private static void slotsAndBytes() {
        Assembly program = a();
        for (int i = 0; i < 12; i++) {
            program.move(0, i);
            FilterGuard guard = new FilterGuard();
            Assembly whole = a();
            for (int k = 0; k <= i; k++) {
                whole.raw(program.word(k));
            }
            Assembly.feed(guard, whole.exit().bytes());
            CHECK.due("all slots of the tape, and no more", guard.program(i + 2, 20), 0);
            CHECK.due("slots", guard.about(6), i + 2);
        }
        for (int feeds = 1; feeds <= 6; feeds++) {
            int slots = 20 * feeds / 8;
            FilterGuard guard = fed(feeds);
            CHECK.illegalArgument("one slot more than " + 20 * feeds + " bytes have", () -> guard.program(slots + 1, 20));
            CHECK.due("no program was looked at", guard.about(0), FilterGuard.NONE);
            CHECK.due("the tape is used up", guard.count(0), 0);
            FilterGuard taken = fed(feeds);
            CHECK.due("as many slots as " + 20 * feeds + " bytes have", taken.program(slots, 20), 6);
            CHECK.due("its slots", taken.about(6), slots);
        }
        FilterGuard first = new FilterGuard();
        Assembly.feed(first, a().move(0, 3).exit().raw(0).raw(-1).bytes());
        CHECK.due("the first two slots of four", first.program(2, 20), 0);
        CHECK.due("what they answer", first.run(0), 3);
        Assembly.feed(first, a().exit().bytes());
        CHECK.due("one slot", first.program(1, 20), 18);
        Assembly most = a();
        for (int i = 0; i < 1999; i++) {
            most.move(0, i);
        }
        FilterGuard large = new FilterGuard();
        CHECK.due("2000 slots", most.exit().program(large), 0);
        CHECK.due("the last one's code", large.code(1999, false), 149);
        CHECK.due("its visits", large.fact(1999, 0), 1);
        CHECK.outOfBounds("a fact behind it", () -> large.fact(2000, 0));
        Assembly.feed(large, most.exit().bytes());
        CHECK.illegalArgument("2001 slots", () -> large.program(2001, 20000));
        CHECK.due("the program stays", large.run(0), 1998);
        CHECK.due("a full tape", full().feed(0, 0, 0, 0, 0), false);
        FilterGuard fullOne = full();
        fullOne.feed(-1, -1, -1, -1, -1);
        CHECK.due("bytes of a full tape", fullOne.count(0), 65520);
        CHECK.due("its first bytes", fullOne.packet(100), true);
        CHECK.due("are as they were", fullOne.packetAt(99), 99);
    }

    /** So many times twenty bytes of MOVE. */
    private static FilterGuard fed(int feeds) {
        FilterGuard guard = new FilterGuard();
        Assembly moves = a();
        for (int i = 0; i < 20; i++) {
            moves.move(0, i);
        }
        Assembly.feed(guard, Arrays.copyOf(moves.bytes(), 20 * feeds));
        return guard;
    }

    private static void budgets() {
        FilterGuard guard = new FilterGuard();
        CHECK.due("a budget of 1", a().leave(0).program(guard, 1), 20);
        CHECK.due("a budget of 2", a().leave(0).program(guard, 2), 0);
        CHECK.due("a budget of 20000", a().leave(4).program(guard, 20000), 0);
        for (int budget : new int[] {0, -1, 20001, Integer.MAX_VALUE, Integer.MIN_VALUE}) {
            Assembly.feed(guard, a().leave(5).bytes());
            CHECK.illegalArgument("a budget of " + budget, () -> guard.program(2, budget));
            CHECK.due("the program stays", guard.run(1), 4);
        }
        CHECK.due("20000 visits", loop().leave(0).program(guard, 20000), 0);
        CHECK.due("visits", guard.about(2), 20000);
        CHECK.due("20000 visits, and a budget of 19999", loop().leave(0).program(guard, 19999), 20);
        CHECK.due("visits", guard.about(2), 19999);
        CHECK.due("20001 visits", loop().move(5, 0).leave(0).program(guard, 20000), 20);
        CHECK.due("visits", guard.about(2), 20000);
        CHECK.due("the slot of the one behind the budget", guard.about(1), 8);
        CHECK.due("it is not counted", guard.fact(8, 0), 0);
        CHECK.due("the one ahead of it is", guard.fact(7, 0), 1);
    }

    /** 19998 visits: 2, then 6665 rounds of 3, then 1. */
    private static Assembly loop() {
        return a().move(2, 0).move(3, 0).move(0, 0).field(Assembly.ADD, 2, 1).ifField(Assembly.BELOW, 2, 6665, -3).move(4, 0);
    }

    private static void aboutFaultsOfForm() {
        Assembly[] wrong = {a().move(0, 1).raw(0), a().move(11, 1).exit(), a().field(Assembly.DIVIDE, 0, 0).exit(), a().call(7).exit(),
            a().jump(5).exit(), a().move(0, 1)};
        for (int fault = 1; fault <= 6; fault++) {
            FilterGuard guard = new FilterGuard();
            Assembly fine = a().load(1, 2, 1, 16).ifField(Assembly.SAME, 2, 0, 1).move(3, 7).leave(1);
            CHECK.due("an accepted program", fine.program(guard), 0);
            for (int what = 2; what <= 5; what++) {
                CHECK.due("about(" + what + ") of it is not 0", guard.about(what) > 0, true);
            }
            Assembly program = wrong[fault - 1];
            CHECK.due("fault " + fault, program.program(guard), fault);
            CHECK.due("about(0)", guard.about(0), fault);
            CHECK.due("about(1)", guard.about(1), fault == 1 ? 1 : 0);
            for (int what = 2; what <= 5; what++) {
                CHECK.due("about(" + what + ") behind fault " + fault, guard.about(what), 0);
            }
            CHECK.due("slots", guard.about(6), program.size());
            CHECK.due("slots of the SHORTER one", guard.about(7), 0);
            for (int slot = 0; slot < program.size(); slot++) {
                for (int what = 0; what <= 4; what++) {
                    CHECK.due("fact(" + slot + ", " + what + ") behind fault " + fault, guard.fact(slot, what), 0);
                }
            }
            CHECK.outOfBounds("a slot that it has not", () -> guard.fact(program.size(), 0));
            noProgram(guard);
        }
    }

    private static void noProgram(FilterGuard guard) {
        CHECK.due("there is no program", guard.count(3), 0);
        CHECK.outOfBounds("code(0, false)", () -> guard.code(0, false));
        CHECK.outOfBounds("code(0, true)", () -> guard.code(0, true));
        CHECK.illegalState("run(0)", () -> guard.run(0));
    }

    /** Behind another fault about() and fact() tell how far it came. */
    private static void aboutOtherFaults() {
        FilterGuard guard = new FilterGuard();
        CHECK.due("an accepted program", a().leave(1).program(guard), 0);
        CHECK.due("no slot of a fault", guard.about(1), FilterGuard.NONE);
        Assembly program = a().load(1, 2, 1, 16).ifField(Assembly.SAME, 2, 0, 1).move(3, 7).copy(0, 3).exit();
        CHECK.due("a fault by one of two ways", program.program(guard), 10);
        int[] want = {10, 3, 6, 2, 1, 1, 5, 0};
        for (int what = 0; what < 8; what++) {
            CHECK.due("about(" + what + ") behind fault 10", guard.about(what), want[what]);
        }
        long[][] facts = {{1, 0, 0, 0, 0}, {1, 1, 1, 0, 0}, {1, 0, 0, 1, 7}, {2, 0, 0, 1, 7}, {1, 0, 0, 0, 0}};
        for (int slot = 0; slot < 5; slot++) {
            for (int what = 0; what < 5; what++) {
                CHECK.due("fact(" + slot + ", " + what + ") behind fault 10", guard.fact(slot, what), facts[slot][what]);
            }
        }
        noProgram(guard);
    }

    private static void factsAndCode() {
        FilterGuard guard = new FilterGuard();
        CHECK.due("a program", a().move(2, 3).jump(1).move(2, 4).copy(0, 2).exit().program(guard), 0);
        CHECK.due("slots", guard.about(6), 5);
        CHECK.due("slots of the SHORTER one", guard.about(7), 3);
        CHECK.due("the last slot", guard.code(4, false), 149);
        CHECK.due("the last slot of the SHORTER one", guard.code(2, true), 149);
        CHECK.outOfBounds("code(5, false)", () -> guard.code(5, false));
        CHECK.outOfBounds("code(3, true)", () -> guard.code(3, true));
        CHECK.outOfBounds("code(-1, false)", () -> guard.code(-1, false));
        CHECK.outOfBounds("code(-1, true)", () -> guard.code(-1, true));
        CHECK.due("the last slot's visits", guard.fact(4, 0), 1);
        CHECK.due("the last what of the first slot", guard.fact(0, 4), 3);
        CHECK.due("a slot without visits", guard.fact(2, 0) + guard.fact(2, 3) + guard.fact(2, 4), 0);
        CHECK.outOfBounds("fact(5, 0)", () -> guard.fact(5, 0));
        CHECK.outOfBounds("fact(-1, 0)", () -> guard.fact(-1, 0));
        CHECK.outOfBounds("fact(0, 5)", () -> guard.fact(0, 5));
        CHECK.outOfBounds("fact(0, -1)", () -> guard.fact(0, -1));
        CHECK.due("a shorter program", a().leave(1).program(guard), 0);
        CHECK.outOfBounds("a slot of the one that was", () -> guard.fact(2, 0));
        CHECK.outOfBounds("code of the one that was", () -> guard.code(2, false));
        CHECK.outOfBounds("SHORTER code of the one that was", () -> guard.code(2, true));
    }

    private static void packets() {
        FilterGuard guard = new FilterGuard();
        for (int n : new int[] {19, 20, 21, 22}) {
            Assembly.feed(guard, row(n, 20));
            CHECK.due("packet(" + n + ") of 20 bytes", guard.packet(n), n <= 20);
            CHECK.due("the tape is used up", guard.count(0), 0);
        }
        CHECK.due("the last byte of what was taken", guard.packetAt(19), 39);
        CHECK.outOfBounds("a byte behind it", () -> guard.packetAt(20));
        Assembly.feed(guard, row(100, 20));
        CHECK.due("a shorter packet", guard.packet(1), true);
        CHECK.due("its byte", guard.packetAt(0), 100);
        CHECK.outOfBounds("a byte of the longer one", () -> guard.packetAt(1));
        CHECK.outOfBounds("a byte ahead", () -> guard.packetAt(-1));
        Assembly.feed(guard, row(0, 2000));
        CHECK.due("packet(2000)", guard.packet(2000), true);
        CHECK.due("byte 1999", guard.packetAt(1999), 1999 & 255);
        CHECK.outOfBounds("byte 2000", () -> guard.packetAt(2000));
        Assembly.feed(guard, row(7, 2020));
        CHECK.due("packet(2001) of 2020 bytes", guard.packet(2001), false);
        CHECK.due("the packet stays", guard.packetAt(0), 0);
        CHECK.due("its end stays", guard.packetAt(1999), 1999 & 255);
        CHECK.due("the tape is used up", guard.count(0), 0);
        CHECK.due("packet(0) of an empty tape", guard.packet(0), true);
        CHECK.outOfBounds("byte 0 of an empty packet", () -> guard.packetAt(0));
    }

    private static void contexts() {
        for (int at = 0; at < 64; at += 8) {
            FilterGuard guard = new FilterGuard();
            CHECK.due("context(" + at + ")", guard.context(at, 0x8182838485868788L), true);
            for (int place = 16; place < 64; place += 8) {
                a().load(8, 0, 1, place).exit().program(guard);
                CHECK.due("place " + place + " of context(" + at + ")", guard.run(0), place == at ? 0x8182838485868788L : 0);
            }
            if (at >= 16) {
                a().load(1, 0, 1, at).exit().program(guard);
                CHECK.due("the lowest byte", guard.run(1), 0x88);
                a().load(1, 0, 1, at + 7).exit().program(guard);
                CHECK.due("the highest byte", guard.run(2), 0x81);
            }
        }
        for (int at = -16; at < 80; at++) {
            FilterGuard guard = new FilterGuard();
            CHECK.due("context(" + at + ")", guard.context(at, 1), at >= 0 && at <= 56 && at % 8 == 0);
        }
        FilterGuard guard = new FilterGuard();
        guard.context(0, -1);
        guard.context(8, -1);
        Assembly.packet(guard, 1, 2, 3, 4);
        a().load(8, 2, 1, 0).load(8, 0, 1, 8).from(Assembly.SUBTRACT, 0, 2).exit().program(guard);
        for (int mode = 0; mode < 3; mode++) {
            CHECK.due("what is told for 0 .. 15 is not seen", guard.run(mode), 4);
        }
    }

    private static void bytesOfPut() {
        for (int valueBytes = 3; valueBytes <= 5; valueBytes++) {
            FilterGuard guard = new FilterGuard();
            guard.map(1, 16, valueBytes, 1);
            Assembly.feed(guard, row(1, 20));
            if (valueBytes == 5) {
                CHECK.illegalArgument("21 bytes of 20", () -> guard.put(0));
                CHECK.due("the entry stays free", guard.entry(0, 0, 0), 0);
                CHECK.due("its value stays", guard.entry(0, 0, 200), 0);
            } else {
                CHECK.due(16 + valueBytes + " bytes of 20", guard.put(0), 0);
                CHECK.due("the key's last byte", guard.entry(0, 0, 115), 16);
                CHECK.due("the value's first byte", guard.entry(0, 0, 200), 17);
                CHECK.due("the value's last byte", guard.entry(0, 0, 199 + valueBytes), 16 + valueBytes);
            }
            CHECK.due("the tape is used up", guard.count(0), 0);
        }
        FilterGuard guard = new FilterGuard();
        guard.map(1, 16, 64, 2);
        Assembly.feed(guard, row(1, 60));
        CHECK.illegalArgument("80 bytes of 60", () -> guard.put(0));
        Assembly.feed(guard, row(1, 80));
        CHECK.due("80 bytes of 80", guard.put(0), 0);
        CHECK.due("the value's last byte", guard.entry(0, 0, 263), 80);
        CHECK.illegalArgument("put of an empty tape", () -> guard.put(0));
        CHECK.due("entries", guard.count(10), 1);
        arrayKeys();
        fullTable();
    }

    private static void arrayKeys() {
        FilterGuard guard = new FilterGuard();
        guard.map(0, 4, 1, 64);
        int[][] keys = {{0, 0, 0, 0}, {63, 0, 0, 0}, {64, 0, 0, 0}, {255, 0, 0, 0}, {0, 1, 0, 0}, {0, 0, 1, 0}, {0, 0, 0, 1}, {63, 0, 0, 128},
            {0, 0, 0, 128}, {255, 255, 255, 255}};
        for (int[] key : keys) {
            boolean isThere = key[0] < 64 && key[1] + key[2] + key[3] == 0;
            Assembly.feed(guard, new byte[] {(byte) key[0], (byte) key[1], (byte) key[2], (byte) key[3], (byte) (key[0] + 1)});
            CHECK.due("put of key " + key[0] + ", " + key[1] + ", " + key[2] + ", " + key[3], guard.put(0), isThere ? 0 : -1);
        }
        for (int i = 0; i < 64; i++) {
            CHECK.due("value of entry " + i, guard.entry(0, i, 200), i == 0 ? 1 : i == 63 ? 64 : 0);
            CHECK.due("entry " + i + " is there", guard.entry(0, i, 0), 1);
        }
        CHECK.due("entries", guard.count(10), 64);
        CHECK.outOfBounds("entry 64", () -> guard.entry(0, 64, 0));
    }

    private static void fullTable() {
        FilterGuard guard = new FilterGuard();
        guard.map(1, 1, 1, 64);
        for (int i = 0; i < 64; i++) {
            CHECK.due("entries so far", guard.count(10), i);
            guard.feed((100 + i) << 24 | i << 16, 0, 0, 0, 0);
            CHECK.due("key " + i, guard.put(0), 0);
        }
        guard.feed(99 << 24 | 99 << 16, 0, 0, 0, 0);
        CHECK.due("a key too many", guard.put(0), -1);
        guard.feed(163 << 24 | 88 << 16, 0, 0, 0, 0);
        CHECK.due("a key that is there", guard.put(0), 0);
        CHECK.due("entries of a full one", guard.count(10), 64);
        for (int i = 0; i < 64; i++) {
            CHECK.due("key of entry " + i, guard.entry(0, i, 100), 100 + i);
            CHECK.due("value of entry " + i, guard.entry(0, i, 200), i == 63 ? 88 : i);
        }
    }

    private static void bytesOfEntries() {
        FilterGuard guard = new FilterGuard();
        guard.map(1, 16, 64, 2);
        guard.map(0, 4, 64, 64);
        Assembly.feed(guard, row(176, 80));
        CHECK.due("put", guard.put(0), 0);
        for (int k = 0; k < 16; k++) {
            CHECK.due("key byte " + k, guard.entry(0, 0, 100 + k), 176 + k);
        }
        for (int k = 0; k < 64; k++) {
            CHECK.due("value byte " + k, guard.entry(0, 0, 200 + k), 192 + k);
        }
        for (int what : new int[] {-1, 1, 99, 116, 117, 199, 264, 265, 300, Integer.MAX_VALUE, Integer.MIN_VALUE}) {
            CHECK.outOfBounds("entry(0, 0, " + what + ")", () -> guard.entry(0, 0, what));
        }
        CHECK.due("a free one", guard.entry(0, 1, 0), 0);
        CHECK.due("a free one's first value byte", guard.entry(0, 1, 200), 0);
        CHECK.due("a free one's last value byte", guard.entry(0, 1, 263), 0);
        CHECK.outOfBounds("a free one's first key byte", () -> guard.entry(0, 1, 100));
        CHECK.outOfBounds("a free one's last key byte", () -> guard.entry(0, 1, 115));
        CHECK.outOfBounds("an entry behind", () -> guard.entry(0, 2, 0));
        CHECK.outOfBounds("an entry ahead", () -> guard.entry(0, -1, 0));
        CHECK.due("the last of an ARRAY", guard.entry(1, 63, 0), 1);
        CHECK.due("its last byte", guard.entry(1, 63, 263), 0);
        CHECK.outOfBounds("a byte behind", () -> guard.entry(1, 63, 264));
        CHECK.outOfBounds("a key byte of an ARRAY", () -> guard.entry(1, 0, 100));
        CHECK.outOfBounds("the last key byte of an ARRAY", () -> guard.entry(1, 0, 103));
        CHECK.outOfBounds("an ARRAY's entry behind", () -> guard.entry(1, 64, 0));
        CHECK.outOfBounds("a map behind", () -> guard.entry(2, 0, 0));
        CHECK.outOfBounds("a map ahead", () -> guard.entry(-1, 0, 0));
        deleted();
    }

    /** A deleted entry has no key any more; its value's bytes stay. */
    private static void deleted() {
        FilterGuard guard = new FilterGuard();
        guard.map(1, 1, 2, 2);
        guard.feed(0x09FFFE00, 0, 0, 0, 0);
        guard.put(0);
        CHECK.due("a program", a().storeField(8, 10, -8, 9).mapTo(1, 0).copy(2, 10).field(Assembly.ADD, 2, -8).call(3).exit().program(guard), 0);
        CHECK.due("its key", guard.entry(0, 0, 100), 9);
        CHECK.due("DELETE", guard.run(0), 0);
        CHECK.due("it is free", guard.entry(0, 0, 0), 0);
        CHECK.outOfBounds("it has no key", () -> guard.entry(0, 0, 100));
        CHECK.due("its value", guard.entry(0, 0, 200), 255);
        CHECK.due("its value's last byte", guard.entry(0, 0, 201), 254);
        CHECK.due("entries", guard.count(10), 0);
        CHECK.due("DELETE of none", guard.run(1), -1);
    }

    private static void clocks() {
        for (long time : new long[] {0, -1, Long.MAX_VALUE, Long.MIN_VALUE, 0xFFFFFFFFL, 0x7FFFFFFFL}) {
            FilterGuard guard = new FilterGuard();
            CHECK.due("a program", a().call(5).exit().program(guard), 0);
            guard.clock(5);
            guard.clock(time);
            for (int mode = 0; mode < 3; mode++) {
                CHECK.due("CLOCK from " + time, guard.run(mode), time + mode);
            }
        }
    }

    private static void modes() {
        FilterGuard guard = new FilterGuard();
        Assembly.packet(guard, 1, 2);
        CHECK.due("ran without a run", guard.ran(0), FilterGuard.NONE);
        CHECK.illegalArgument("run(-1) without a program", () -> guard.run(-1));
        CHECK.illegalState("run(2) without a program", () -> guard.run(2));
        a().leave(9).program(guard);
        CHECK.illegalArgument("run(-1)", () -> guard.run(-1));
        CHECK.illegalArgument("run(3)", () -> guard.run(3));
        CHECK.due("ran without a run", guard.ran(1), FilterGuard.NONE);
        CHECK.due("runs", guard.count(4), 0);
        for (int mode = 0; mode < 3; mode++) {
            CHECK.due("run(" + mode + ")", guard.run(mode), 9);
            CHECK.due("its mode", guard.ran(1), mode);
            CHECK.due("runs", guard.count(4), mode + 1);
        }
        CHECK.due("ran(-1)", guard.ran(-1), FilterGuard.NONE);
        CHECK.due("ran(0)", guard.ran(0), 2);
        CHECK.due("ran(2)", guard.ran(2), 2);
        CHECK.due("ran(3)", guard.ran(3), FilterGuard.NONE);
        CHECK.illegalArgument("run(3)", () -> guard.run(3));
        CHECK.due("ran(1) behind a refused run", guard.ran(1), 2);
        guard.packet(0);
        CHECK.due("ran(2) of the run that was", guard.ran(2), 2);
        guard.run(1);
        CHECK.due("ran(2) of an empty packet", guard.ran(2), 0);
        Assembly.feed(guard, row(0, 2000));
        guard.packet(2000);
        guard.run(1);
        CHECK.due("ran(2) of the longest packet", guard.ran(2), 2000);
    }

    private static void counts() {
        FilterGuard guard = new FilterGuard();
        for (int maps = 0; maps <= 4; maps++) {
            CHECK.due("maps", guard.count(1), maps);
            for (int what = 10; what <= 14; what++) {
                CHECK.due("count(" + what + ") of " + maps + " maps", guard.count(what), what - 10 < maps ? 1 + what - 10 : FilterGuard.NONE);
            }
            if (maps < 4) {
                guard.map(0, 4, 1, 1 + maps);
            }
        }
        for (int what : new int[] {-1, 5, 6, 7, 8, 9, 14, 15, 100, Integer.MAX_VALUE, Integer.MIN_VALUE}) {
            CHECK.due("count(" + what + ")", guard.count(what), FilterGuard.NONE);
        }
        guard.feed(0, 0, 0, 0, 0);
        guard.feed(0, 0, 0, 0, 0);
        CHECK.due("bytes on the tape", guard.count(0), 40);
        CHECK.due("no program", guard.count(3), 0);
        guard.packet(0);
        CHECK.due("a program", a().leave(1).program(guard), 0);
        CHECK.due("there is one", guard.count(3), 1);
        CHECK.due("a fault", a().exit().program(guard), 18);
        CHECK.due("there is none", guard.count(3), 0);
    }
}
