import java.io.IOException;
import java.lang.reflect.Field;
import java.lang.reflect.Method;
import java.lang.reflect.Modifier;
import java.nio.file.Files;
import java.nio.file.Path;
import java.util.regex.Matcher;
import java.util.regex.Pattern;

/** Rules of LANGUAGE.md that text and members of the class show; .ci/run starts it in the project's folder. */
public final class LanguageTest {
    private static final Due due = new Due();

    public static void main(String[] args) throws IOException {
        String text = Files.readString(Path.of("src/main/java/TentativeLog.java"));
        String code = text.replaceAll("(?s)/\\*.*?\\*/", "").replaceAll("//[^\n]*", "");
        none(code, "rules 1, 3", "\\b(package|import|interface|enum|record|protected)\\b");
        none(code, "rules 2, 3",
                "\\b(float|double|String|Object|Math|Integer|Long|System|Arrays|toString|equals|hashCode|getClass)\\b");
        none(code, "rules 2, 4", "\\[\\s*\\]\\s*\\[|\\bnull\\b|\"");
        none(code, "rule 6", "\\b(throw|throws|try|catch|synchronized|assert|instanceof)\\b|->|::");
        none(code, "rule 5", "\\bstatic\\s*\\{|\\bstatic\\s+final\\s+(?!int\\b|long\\b)");
        members();
        none(code, "rule 10", "\\b(?!if|for|while|switch)\\w+\\([^()]*\\w\\([^()]*\\)[^()]*\\)");
        none(code, "rule 4, arrays made outside a field's initialiser",
                "(?m)^(?!    private final (?:int|long)\\[\\] \\w+ = new (?:int|long)\\[[A-Z_]+\\];$).*\\bnew\\b.*$");
        due.end();
    }

    /** What the compiled class tells of rules 2, 5 and 10. */
    private static void members() {
        int fields = 0;
        for (Field field : TentativeLog.class.getDeclaredFields()) {
            Class<?> type = field.getType();
            boolean constant = Modifier.isStatic(field.getModifiers());
            fields += constant ? 0 : 1;
            if (constant) {
                boolean fine = Modifier.isFinal(field.getModifiers()) && (type == int.class || type == long.class);
                due.is("rule 5: " + field.getName() + " is a constant of int or long", fine ? 1 : 0, 1);
            }
            boolean numbers = type.isPrimitive() || type.isArray() && type.getComponentType().isPrimitive();
            due.is("rule 2: " + field.getName() + " is of numbers", numbers ? 1 : 0, 1);
        }
        due.is("rule 10: at most some forty fields", fields <= 40 ? 1 : 0, 1);
        for (Method method : TentativeLog.class.getDeclaredMethods()) {
            String name = method.getName();
            due.is("rule 10: " + name + " takes at most seven", method.getParameterCount() <= 7 ? 1 : 0, 1);
            due.is("rule 4: " + name + " answers no array", method.getReturnType().isArray() ? 1 : 0, 0);
        }
    }

    private static void none(String code, String rule, String pattern) {
        Matcher found = Pattern.compile(pattern).matcher(code);
        while (found.find()) {
            due.is(rule + ": '" + found.group().strip() + "' stands there", 1, 0);
        }
    }
}
