import java.io.IOException;
import java.nio.file.Files;
import java.nio.file.Path;
import java.util.List;
import java.util.regex.Matcher;
import java.util.regex.Pattern;

/** The rules of ../shared/LANGUAGE.md that a look at the source can tell. */
public final class LanguageTest {
    private static final Check CHECK = new Check("LanguageTest");
    private static final List<String> BANNED = List.of("try", "catch", "finally", "synchronized", "assert", "package",
            "protected", "Object", "System.out", "System.nanoTime", "System.currentTimeMillis", "Thread", "Random",
            "hashCode", "toString", "instanceof", "Exact", "getMessage", "static \\{");
    private static final List<String> EXCEPTIONS = List.of("IllegalStateException", "IllegalArgumentException",
            "ArithmeticException", "NoSuchElementException");

    public static void main(String[] args) throws IOException {
        String source = Files.readString(Path.of("src/main/java/ThermalCoreScheduler.java"));
        String bare = source.replaceAll("(?s)/\\*.*?\\*/", "").replaceAll("//[^\n]*", "");
        String code = bare.replaceAll("\"[^\"]*\"", "\"\"");
        for (String word : BANNED) {
            CHECK.same(word + " is used", Pattern.compile("\\b" + word).matcher(code).find(), false);
        }
        CHECK.same("a lambda or a method reference", code.contains("->") || code.contains("::"), false);
        CHECK.same("a sign above 127", source.chars().anyMatch(c -> c > 127), false);
        Matcher imports = Pattern.compile("import ([^;]+);").matcher(code);
        while (imports.find()) {
            CHECK.same("an import", imports.group(1), "java.util.NoSuchElementException");
        }
        Matcher thrown = Pattern.compile("throw ([^;]*);").matcher(code);
        while (thrown.find()) {
            String made = thrown.group(1).replaceAll("^new (\\w+)\\(\"\"\\)$", "$1");
            CHECK.same("throw " + thrown.group(1), EXCEPTIONS.contains(made), true);
        }
        lengthsOfMethods(code);
        CHECK.end();
    }

    private static void lengthsOfMethods(String code) {
        String[] lines = code.split("\n");
        int classes = 0;
        int start = -1;
        for (int i = 0; i < lines.length; i++) {
            classes += lines[i].matches(".*\\bclass \\w+ \\{") ? 1 : 0;
            boolean head = lines[i].matches(" {4}( {4})?[a-z].*\\)( throws [\\w, ]+)? \\{|"
                    + " {12}throws [\\w, ]+ \\{");
            if (head) {
                start = i;
            } else if (start >= 0 && lines[i].matches(" {4}( {4})?\\}")) {
                CHECK.same("the method at line " + (start + 1) + " is short", i - start <= 60, true);
                start = -1;
            }
        }
        CHECK.same("at most twelve classes", classes > 1 && classes <= 12, true);
    }
}
