import java.io.IOException;
import java.nio.file.Files;
import java.nio.file.Path;
import java.util.List;
import java.util.Set;
import java.util.regex.Matcher;
import java.util.regex.Pattern;

/** What of LANGUAGE.md can be seen in the lines of the class; the number of the rule comes first. */
public final class LanguageTest {
    private static final Path SOURCE = Path.of("src/main/java/OrderAxioms.java");

    private static final Pattern FORBIDDEN = Pattern.compile("->|::|\\b(package|import|try|catch"
        + "|finally|synchronized|assert|double|float|System|Arrays|Thread|Object|\\w+Exact)\\b");

    private static final Pattern THROW = Pattern.compile("throw new (\\w+)\\((\"[^\"]*\")?\\);");

    private static final Set<String> THROWN = Set.of("IllegalArgumentException",
        "IndexOutOfBoundsException", "UnsupportedOperationException");

    private static final Pattern FIELD_MADE =
        Pattern.compile("\\s*(private )?final [\\w\\[\\]]+ \\w+ = new [\\w\\[\\]() +]+;");

    private static final Pattern METHOD =
        Pattern.compile("( {4}| {8})(public |private |static )*[\\w\\[\\]]+ \\w+\\((.*)");

    public static void main(String[] args) throws IOException {
        List<String> lines = Files.readAllLines(SOURCE);
        for (int i = 0; i < lines.size(); i++) {
            checkLine("line " + (i + 1) + ": ", lines.get(i));
        }
        checkMethods(lines);
        Checks.due("11: at most some twelve classes", countOf(lines, " class ") <= 12, true);
        Checks.due("1: one public class", countOf(lines, "public final class "), 1);
        Checks.end("LanguageTest");
    }

    private static void checkLine(String where, String line) {
        if (isComment(line)) {
            return;
        }
        Matcher forbidden = FORBIDDEN.matcher(line);
        Checks.due("3 to 6: " + where + line, forbidden.find() ? forbidden.group() : "", "");
        Checks.due("5: " + where + line,
            line.contains("static") && line.contains(" = ") && !line.contains(" final "), false);
        if (line.contains("throw ")) {
            Matcher thrown = THROW.matcher(line.trim());
            Checks.due("6: " + where + line,
                thrown.matches() && THROWN.contains(thrown.group(1)), true);
        } else if (line.contains("new ")) {
            // Calls of one run share one room: all is made with the object, nothing by a call.
            Checks.due("12: " + where + line, FIELD_MADE.matcher(line).matches(), true);
        }
    }

    private static void checkMethods(List<String> lines) {
        int methods = 0;
        for (int i = 0; i < lines.size(); i++) {
            Matcher head = METHOD.matcher(lines.get(i));
            if (isComment(lines.get(i)) || !head.matches() || lines.get(i).contains("=")
                    || lines.get(i).trim().startsWith("return ")) {
                continue;
            }
            methods++;
            int end = i;
            while (end < lines.size() && !lines.get(end).equals(head.group(1) + "}")) {
                end++;
            }
            Checks.due("11: a short method: " + lines.get(i), end - i <= 60, true);
            Checks.due("11: at most seven parameters: " + lines.get(i),
                head.group(3).split(",").length <= 7, true);
        }
        Checks.due("11: the methods were found", methods > 17, true);
    }

    private static boolean isComment(String line) {
        String text = line.trim();
        return text.startsWith("/*") || text.startsWith("*") || text.startsWith("//");
    }

    private static int countOf(List<String> lines, String text) {
        int count = 0;
        for (String line : lines) {
            if (!isComment(line) && line.contains(text)) {
                count++;
            }
        }
        return count;
    }
}
