import java.io.IOException;
import java.nio.file.Files;
import java.nio.file.Path;
import java.util.List;

/**
 * Promises 4 to 17 on programs made by chance: the answers in model-runs.txt and, mostly of numbers,
 * in number-runs.txt come from a second, plainer model by the same hand (see README.md). A line there
 * is a call, a line that begins with = is what is due of the call above it; facts, SHORTER code and
 * what a run leaves are digests.
 */
public final class ModelTest {
    private static final Checker CHECK = new Checker("ModelTest");
    private static final Path RESOURCES = Path.of("src/test/resources");

    private FilterGuard guard;
    private int[][] maps;
    private int mapCount;

    private ModelTest() {
    }

    public static void main(String[] args) throws IOException {
        replay("model-runs.txt");
        replay("number-runs.txt");
        CHECK.end();
    }

    private static void replay(String file) throws IOException {
        ModelTest test = new ModelTest();
        List<String> lines = Files.readAllLines(RESOURCES.resolve(file));
        for (int i = 0; i < lines.size(); i++) {
            boolean hasDue = i + 1 < lines.size() && lines.get(i + 1).startsWith("=");
            if (!lines.get(i).startsWith("=")) {
                long[] got = test.call(lines.get(i).split(" "));
                if (hasDue) {
                    compare(file + ", line " + (i + 1), got, lines.get(i + 1).split(" "));
                }
            }
        }
    }

    private static void compare(String what, long[] got, String[] want) {
        CHECK.due(what + ": numbers", got.length, want.length - 1);
        for (int i = 0; i < got.length && i + 1 < want.length; i++) {
            CHECK.due(what + ", number " + i, got[i], Long.parseLong(want[i + 1]));
        }
    }

    private long[] call(String[] words) {
        switch (words[0]) {
            case "new":
                guard = new FilterGuard();
                maps = new int[4][];
                mapCount = 0;
                return new long[0];
            case "map":
                int[] map = {Integer.parseInt(words[1]), Integer.parseInt(words[2]), Integer.parseInt(words[3]), Integer.parseInt(words[4])};
                maps[mapCount] = map;
                CHECK.due("map", guard.map(map[0], map[1], map[2], map[3]), mapCount);
                mapCount++;
                return new long[0];
            case "program":
                return program(words);
            case "put":
                Assembly.feed(guard, bytes(words[2]));
                return new long[] {guard.put(Integer.parseInt(words[1]))};
            case "context":
                CHECK.due("context", guard.context(Integer.parseInt(words[1]), Long.parseUnsignedLong(words[2], 16)), true);
                return new long[0];
            case "packet":
                byte[] packet = bytes(words.length > 1 ? words[1] : "");
                Assembly.feed(guard, packet);
                CHECK.due("packet", guard.packet(packet.length), true);
                return new long[0];
            default:
                return new long[] {guard.run(Integer.parseInt(words[1])), guard.ran(0), left()};
        }
    }

    private static byte[] bytes(String hex) {
        byte[] bytes = new byte[hex.length() / 2];
        for (int i = 0; i < bytes.length; i++) {
            bytes[i] = (byte) Integer.parseInt(hex.substring(2 * i, 2 * i + 2), 16);
        }
        return bytes;
    }

    private long[] program(String[] words) {
        Assembly program = new Assembly();
        for (int k = 2; k < words.length; k++) {
            program.raw(Long.parseUnsignedLong(words[k], 16));
        }
        int fault = program.program(guard, Integer.parseInt(words[1]));
        CHECK.due("program and about(0)", fault, guard.about(0));
        long[] got = new long[10];
        for (int what = 0; what < 8; what++) {
            got[what] = guard.about(what);
        }
        got[8] = 7;
        for (int k = 0; k < program.size(); k++) {
            for (int what = 0; what < 5; what++) {
                got[8] = 31 * got[8] + guard.fact(k, what);
            }
            if (fault == 0) {
                CHECK.due("code", guard.code(k, false), program.word(k));
            }
        }
        got[9] = 7;
        for (int k = 0; k < guard.about(7); k++) {
            got[9] = 31 * got[9] + guard.code(k, true);
        }
        return got;
    }

    private long left() {
        long digest = 7;
        for (int k = 0; k < guard.ran(2); k++) {
            digest = 31 * digest + guard.packetAt(k);
        }
        for (int m = 0; m < mapCount; m++) {
            for (int i = 0; i < maps[m][3]; i++) {
                digest = 31 * digest + guard.entry(m, i, 0);
                for (int k = 0; k < maps[m][1] && maps[m][0] == 1 && guard.entry(m, i, 0) == 1; k++) {
                    digest = 31 * digest + guard.entry(m, i, 100 + k);
                }
                for (int k = 0; k < maps[m][2]; k++) {
                    digest = 31 * digest + guard.entry(m, i, 200 + k);
                }
            }
            digest = 31 * digest + guard.count(10 + m);
        }
        for (int k = 0; k < guard.count(2); k++) {
            digest = 31 * digest + guard.told(k);
        }
        return 31 * (31 * digest + guard.count(2)) + guard.count(4);
    }
}
