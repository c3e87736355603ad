import java.io.IOException;
import java.nio.file.Files;
import java.nio.file.Path;
import java.util.regex.Matcher;
import java.util.regex.Pattern;

/** Rules of LANGUAGE.md that can be seen in the program's text; .ci/run starts it in the project's folder. */
public final class LanguageTest {
    private static final Due due = new Due();

    public static void main(String[] args) throws IOException {
        String text = Files.readString(Path.of("src/main/java/TentativeLog.java"));
        String code = text.replaceAll("(?s)/\\*.*?\\*/", "").replaceAll("//[^\n]*", "");
        none(code, "rules 1, 3", "\\b(package|import|interface|enum|record|protected)\\b");
        none(code, "rules 2, 3",
                "\\b(float|double|String|Object|Math|Integer|Long|System|Arrays|toString|equals|hashCode|getClass)\\b");
        none(code, "rules 2, 4", "\\[\\s*\\]\\s*\\[|\\bnull\\b|\"");
        none(code, "rule 6", "\\b(throw|throws|try|catch|synchronized|assert|instanceof)\\b|->|::");
        none(code, "rule 5", "\\bstatic\\s*\\{|\\bstatic\\s+final\\s+(?!int\\b|long\\b)");
        none(code, "rule 10", "\\b(?!if|for|while|switch)\\w+\\([^()]*\\w\\([^()]*\\)[^()]*\\)");
        none(code, "rule 4, arrays made outside a field's initialiser",
                "(?m)^(?!    private final (?:int|long)\\[\\] \\w+ = new (?:int|long)\\[[A-Z_]+\\];$).*\\bnew\\b.*$");
        due.end();
    }

    private static void none(String code, String rule, String pattern) {
        Matcher found = Pattern.compile(pattern).matcher(code);
        while (found.find()) {
            due.is(rule + ": '" + found.group().strip() + "' stands there", 1, 0);
        }
    }
}
