import java.io.IOException;
import java.nio.file.Files;
import java.nio.file.Path;
import java.util.Set;
import java.util.regex.Matcher;
import java.util.regex.Pattern;

/** Rule 4 of LANGUAGE.md: of the library the class uses only what the rule names. */
public final class LibraryTest {
    private static final Checker CHECK = new Checker("LibraryTest");
    private static final Path SOURCE = Path.of("src/main/java/FilterGuard.java");
    private static final Set<String> NAMED = Set.of("compare", "max", "min", "abs", "bitCount", "floorDiv", "floorMod");
    private static final Set<String> OTHERS = Set.of("System.arraycopy", "Arrays.copyOf", "Arrays.copyOfRange", "Arrays.fill", "List.of");
    private static final Pattern MEMBER = Pattern.compile("(?<![.\\w])(Integer|Long|Math|System|Arrays|List|String|Short|Byte|Character"
        + "|Boolean|Double|Float|Objects|Collections)\\s*\\.\\s*(\\w+)");
    private static final Pattern IMPORT = Pattern.compile("(?m)^import (.*);");
    private static final Pattern COMMENT = Pattern.compile("(?s)/\\*.*?\\*/|//[^\\n]*");

    private LibraryTest() {
    }

    public static void main(String[] args) throws IOException {
        wrongOnesAreSeen();
        String source = Files.readString(SOURCE);
        members(source);
        imports(source);
        CHECK.end();
    }

    private static boolean isNamed(String type, String member) {
        boolean isOfNumbers = type.equals("Integer") || type.equals("Long") || type.equals("Math");
        return isOfNumbers ? NAMED.contains(member) : OTHERS.contains(type + "." + member);
    }

    private static void wrongOnesAreSeen() {
        CHECK.due("Long.bitCount is named", isNamed("Long", "bitCount"), true);
        CHECK.due("Long.divideUnsigned is named", isNamed("Long", "divideUnsigned"), false);
        CHECK.due("Long.remainderUnsigned is named", isNamed("Long", "remainderUnsigned"), false);
        CHECK.due("Math.addExact is named", isNamed("Math", "addExact"), false);
        CHECK.due("System.nanoTime is named", isNamed("System", "nanoTime"), false);
    }

    private static void members(String source) {
        Matcher found = MEMBER.matcher(COMMENT.matcher(source).replaceAll(" "));
        int seen = 0;
        while (found.find()) {
            CHECK.due(found.group() + " is named by rule 4", isNamed(found.group(1), found.group(2)), true);
            seen++;
        }
        CHECK.due("some were found", seen > 0, true);
    }

    private static void imports(String source) {
        Set<String> known = Set.of("java.util.Arrays", "java.util.ArrayList", "java.util.List", "java.util.Iterator",
            "java.util.NoSuchElementException");
        Matcher found = IMPORT.matcher(source);
        while (found.find()) {
            CHECK.due("import of " + found.group(1), known.contains(found.group(1)), true);
        }
    }
}
