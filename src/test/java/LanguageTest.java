import java.io.IOException;
import java.nio.file.Files;
import java.nio.file.Path;
import java.util.Set;
import java.util.regex.Matcher;
import java.util.regex.Pattern;

/** Rules of LANGUAGE.md as far as the text of the class shows them: what it uses, what it leaves out. */
public final class LanguageTest {
    private static final Due DUE = new Due("LanguageTest");
    private static final Path SOURCE = Path.of("src/main/java/ChoirWires.java");
    private static final int MOST_LINES = 60;

    private static final Pattern NO_CODE =
        Pattern.compile("/\\*.*?\\*/|//[^\n]*|\"(\\\\.|[^\"\\\\\n])*\"|'(\\\\.|[^'\\\\\n])+'", Pattern.DOTALL);
    private static final Pattern LIBRARY = Pattern.compile(
        "\\b(Integer|Long|Short|Byte|Character|Boolean|Double|Float|Math|StrictMath|System|Arrays|Collections|Objects"
        + "|List|ArrayList|String|StringBuilder|Thread|Runtime)\\s*\\.\\s*(\\w+\\s*\\(?)");
    private static final Set<String> USABLE = Set.of(
        "Integer.bitCount(", "Integer.compare(", "Integer.max(", "Integer.min(", "Long.bitCount(", "Long.compare(",
        "Math.max(", "Math.min(", "Math.abs(", "Math.floorDiv(", "Math.floorMod(",
        "System.arraycopy(", "Arrays.fill(", "Arrays.copyOf(", "Arrays.copyOfRange(");

    public static void main(String[] args) throws IOException {
        String source = Files.readString(SOURCE);
        DUE.holds("rule 4: signs 1 to 127 alone", source.chars().allMatch(c -> c >= 1 && c <= 127));
        String code = withoutTexts(source);
        oneFile(code);
        library(code);
        leftOut(code);
        shortMethods(code);
        DUE.end();
    }

    /** Comments and texts are blanked, so that what they say is not taken for code; lines stay. */
    private static String withoutTexts(String source) {
        Matcher m = NO_CODE.matcher(source);
        return m.replaceAll(r -> r.group().startsWith("/") ? "\n".repeat((int) lineEnds(r.group())) : "0");
    }

    private static long lineEnds(String text) {
        return text.chars().filter(c -> c == '\n').count();
    }

    private static void oneFile(String code) {
        never(code, "the head: a package line", "\\bpackage\\b");
        Matcher m = Pattern.compile("\\bimport\\s+([^;]*);").matcher(code);
        while (m.find()) {
            DUE.holds("rule 4: import " + m.group(1),
                Set.of("java.util.Arrays", "java.util.ArrayList", "java.util.List").contains(m.group(1)));
        }
        String inside = code.replaceFirst("(?s)^.*?\\{", "");
        never(inside, "rule 1: a class inside that is open", "\\b(public|protected)\\s+[\\w ]*\\b(class|interface|enum|record)\\b");
    }

    private static void library(String code) {
        Matcher m = LIBRARY.matcher(code);
        int found = 0;
        while (m.find()) {
            String use = m.group(1) + "." + m.group(2).replaceAll("\\s", "");
            DUE.holds("rule 4: " + use, USABLE.contains(use));
            found++;
        }
        DUE.holds("uses of the library are found: " + found, found > 0);
    }

    private static void leftOut(String code) {
        never(code, "rule 2: a lambda or a method reference", "->|::");
        never(code, "rule 3: numbers that may be NaN", "\\b(double|float)\\b");
        never(code, "rule 3: rows of three dimensions", "\\[[^\\]]*\\]\\s*\\[[^\\]]*\\]\\s*\\[");
        never(code, "rule 4: what ends in Exact", "\\w+Exact\\b");
        never(code, "rule 5: a static initialiser block", "\\bstatic\\s*\\{");
        never(code, "rule 5: static state", "\\bstatic\\s+(?!final\\b)[\\w\\[\\]]+\\s+\\w+\\s*[=;,]");
        never(code, "rule 6: an exception, as the document names none", "\\b(throw|throws|try|catch|finally|Exception)\\b");
        never(code, "rule 6: synchronized, assert", "\\b(synchronized|assert|volatile|native)\\b");
        never(code, "rule 6: what depends on the object", "\\b(equals|hashCode|toString|getClass)\\b");
        never(code, "rule 9: a loop without a bound", "\\bwhile\\s*\\(\\s*true\\s*\\)|\\bfor\\s*\\([^;)]*;\\s*;");
        never(code, "annotations", "@");
    }

    private static void never(String code, String what, String pattern) {
        Matcher m = Pattern.compile(pattern).matcher(code);
        boolean stands = m.find();
        DUE.holds(what + (stands ? ", line " + (1 + lineEnds(code.substring(0, m.start()))) : ""), !stands);
    }

    /** Every block that a list of parameters opens at a class's own depth is a method. */
    private static void shortMethods(String code) {
        String[] lines = code.split("\n", -1);
        int depth = 0;
        int classDepth = 0;
        int start = -1;
        int methods = 0;
        for (int i = 0; i < lines.length; i++) {
            boolean opens = lines[i].endsWith("{");
            if (opens && lines[i].contains(" class ")) {
                classDepth = depth + 1;
            } else if (opens && lines[i].contains("(") && depth == classDepth) {
                start = i;
                methods++;
            }
            depth += ends(lines[i], '{') - ends(lines[i], '}');
            if (start >= 0 && depth == classDepth) {
                DUE.holds("rule 11: lines of the method at line " + (start + 1), i - start < MOST_LINES);
                start = -1;
            }
            classDepth = Math.min(classDepth, depth);
        }
        DUE.holds("methods are found: " + methods, methods > 34);
        DUE.is("blocks are closed", depth, 0);
    }

    private static int ends(String line, char sign) {
        return (int) line.chars().filter(c -> c == sign).count();
    }
}
