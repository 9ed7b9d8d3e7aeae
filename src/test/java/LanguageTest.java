import java.nio.charset.StandardCharsets;
import java.nio.file.Files;
import java.nio.file.Path;
import java.util.regex.Matcher;
import java.util.regex.Pattern;

/** What of LANGUAGE.md can be seen in the source's words alone. Runs in the project's folder. */
public final class LanguageTest {
    private static void forbid(String source, String rule, String pattern) {
        Matcher m = Pattern.compile(pattern).matcher(source);
        if (m.find()) {
            long line = source.substring(0, m.start()).lines().count();
            Check.due("rule " + rule + " at line " + line + ": " + m.group(), 1, 0);
        } else {
            Check.due("rule " + rule, 0, 0);
        }
    }

    /** Comments and texts are blanked, lines stay. */
    private static String bare(String source) {
        Matcher m = Pattern.compile("/\\*.*?\\*/|//[^\n]*|\"[^\"\n]*\"", Pattern.DOTALL).matcher(source);
        return m.replaceAll(found -> "\"\"" + "\n".repeat((int) found.group().chars().filter(c -> c == '\n').count()));
    }

    private static void checkMethods(String source) {
        String[] lines = source.split("\n", -1);
        Pattern head = Pattern.compile("^( +)(?!else|if|for|while|switch)[a-zA-Z].*\\((.*)\\) \\{$");
        for (int i = 0; i < lines.length; i++) {
            Matcher m = head.matcher(lines[i]);
            if (!m.find() || lines[i].contains(" else ") || lines[i].trim().startsWith("}")) {
                continue;
            }
            int end = i;
            while (end < lines.length - 1 && !lines[end].equals(m.group(1) + "}")) {
                end++;
            }
            Check.holds("rule 11: at most sixty lines from line " + (i + 1), end - i <= 60);
            Check.holds("rule 11: at most seven parameters at line " + (i + 1), m.group(2).split(",").length <= 7);
        }
    }

    public static void main(String[] args) throws Exception {
        String whole = Files.readString(Path.of("src/main/java/ButtonTin.java"), StandardCharsets.ISO_8859_1);
        Check.holds("signs 10, 32 to 126 alone", whole.chars().allMatch(c -> c == 10 || c >= 32 && c <= 126));
        String source = bare(whole);
        forbid(source, "6: no exceptions", "\\b(throw|throws|try|catch|finally|synchronized|assert)\\b");
        forbid(source, "2: no lambda, no method reference", "->|::");
        forbid(source, "4: no Exact", "\\w+Exact\\b");
        forbid(source, "the library: no import, no package", "(?m)^\\s*(import|package)\\b");
        forbid(source, "13: no clock, no randomness, no thread", "\\b(Random|Thread|nanoTime|currentTimeMillis|getenv|Math\\.random)\\b");
        forbid(source, "6: no equals, hashCode, toString", "\\b(hashCode|toString)\\b");
        forbid(source, "5: no static state", "\\bstatic\\s+(?!final\\b)[\\w\\[\\]]+\\s+\\w+\\s*(=|;)");
        forbid(source, "5: no static block", "\\bstatic\\s*\\{");
        forbid(source, "3: no arrays of three dimensions", "\\[\\]\\[\\]\\[\\]");
        forbid(source, "2: classes inside are static", "(?m)^\\s+(private )?(final )?class\\b");
        forbid(source, "4: the library: only what stands there, no constants of it",
            "\\b(?!Bench\\.|System\\.arraycopy\\b)[A-Z]\\w*[a-z]\\w*\\.(?!(bitCount|numberOfTrailingZeros|max|min|abs)\\b)\\w+");
        checkMethods(source);
        Check.finish();
    }
}
