import java.io.IOException;
import java.nio.file.Files;
import java.nio.file.Path;
import java.util.LinkedHashMap;
import java.util.Map;
import java.util.TreeSet;
import java.util.regex.Matcher;
import java.util.regex.Pattern;

/** The rules of LANGUAGE.md that can be read from the text of the class, by their numbers. */
public final class LanguageTest {
    private static final Path CLASS = Path.of("src/main/java/CoxeterWords.java");

    private static final Pattern COMMENT = Pattern.compile("/\\*.*?\\*/|//[^\n]*", Pattern.DOTALL);
    private static final Pattern NOT_LEFT = Pattern.compile("\\b(package|import|interface|enum|record"
            + "|float|double|null|throws?|try|catch|finally|synchronized|assert|instanceof|super"
            + "|equals|hashCode|toString|getClass|notify|notifyAll|wait)\\b"
            + "|->|::|\"|@|\\] *\\[|static *\\{");
    private static final Pattern OTHER_CLASS = Pattern.compile("\\b(?!CoxeterWords\\b)[A-Z]\\w*[a-z]\\w*");
    private static final Pattern MADE = Pattern.compile("[^\n]*\\bnew\\b[^\n]*");
    private static final Pattern ARRAY_FIELD = Pattern.compile(
            " {4}private final (\\w+)\\[\\] \\w+ = new \\1\\[\\w+\\];");
    private static final Pattern METHOD = Pattern.compile(
            "\n {4}(?:public|private)[a-z ]* (\\w+)\\([^)]*\\) \\{\n(.*?)\n {4}\\}\n", Pattern.DOTALL);
    private static final Pattern CALL = Pattern.compile("\\b(?!(?:if|for|while|switch|return)\\b)(\\w+) ?\\(");
    private static final Pattern LOOP = Pattern.compile("\\b(for|while|do)\\b[^\n]*");
    private static final Pattern COUNTED = Pattern.compile(
            "for \\(int (\\w+) = [^;]+; \\1 (?:<|<=|>|>=) [^;]+; \\1(?:\\+\\+|--)\\) \\{");

    /** Bodies of the methods and of the constructor, by name: no name stands for two. */
    private static final Map<String, String> BODIES = new LinkedHashMap<>();

    public static void main(String[] args) throws IOException {
        String text = COMMENT.matcher(Files.readString(CLASS)).replaceAll("");
        wordsThatAreNotLeft(text);
        arraysAreMadeInFields(text);
        readMethods(text);
        loopsAreCounted(text);
        for (Map.Entry<String, String> method : BODIES.entrySet()) {
            Check.due("rule 10, lines of " + method.getKey(),
                    method.getValue().lines().count() <= 60, true);
            noCallInsideArguments(method.getKey(), method.getValue());
        }
        callsEndAfterSix();
        Check.end();
    }

    /** Rules 1, 2, 3, 5 and 6. */
    private static void wordsThatAreNotLeft(String text) {
        Check.due("words that are not left", allOf(NOT_LEFT, text), "[]");
        Check.due("other classes", allOf(OTHER_CLASS, text), "[]");
        Check.due("one class", Pattern.compile("\\bclass\\b").matcher(text).results().count(), 1);
    }

    private static String allOf(Pattern pattern, String text) {
        return new TreeSet<>(pattern.matcher(text).results().map(each -> each.group()).toList()).toString();
    }

    /** Rule 4; the fields are final, so that no method can assign to one. */
    private static void arraysAreMadeInFields(String text) {
        Matcher made = MADE.matcher(text);
        int arrays = 0;
        while (made.find()) {
            Check.due("rule 4: " + made.group(), ARRAY_FIELD.matcher(made.group()).matches(), true);
            arrays++;
        }
        Check.due("there are arrays", arrays > 0, true);
    }

    private static void readMethods(String text) {
        Matcher method = METHOD.matcher(text);
        int from = 0;
        while (method.find(from)) {
            boolean isNew = BODIES.put(method.group(1), method.group(2)) == null;
            Check.due("rule 1, one name for two: " + method.group(1), isNew, true);
            // The line's end behind one method may be the one that stands before the next.
            from = method.end() - 1;
        }
        int declared = CoxeterWords.class.getDeclaredMethods().length
                + CoxeterWords.class.getDeclaredConstructors().length;
        Check.due("methods read", BODIES.size(), declared);
    }

    /** Rule 8, and closer than it: every loop of this class counts one variable to a bound. */
    private static void loopsAreCounted(String text) {
        Matcher loop = LOOP.matcher(text);
        while (loop.find()) {
            Check.due("rule 8: " + loop.group(), COUNTED.matcher(loop.group()).matches(), true);
        }
    }

    /** Rule 10. */
    private static void noCallInsideArguments(String name, String body) {
        Matcher call = CALL.matcher(body);
        while (call.find()) {
            String arguments = body.substring(call.end(), closing(body, call.end()));
            Check.due("rule 10, call in arguments of " + call.group(1) + " in " + name,
                    CALL.matcher(arguments).find(), false);
        }
    }

    /** Where the bracket that was opened just before start is closed. */
    private static int closing(String body, int start) {
        int open = 1;
        int i = start;
        while (open > 0) {
            char c = body.charAt(i);
            open += c == '(' ? 1 : c == ')' ? -1 : 0;
            i++;
        }
        return i - 1;
    }

    /** Rules 8 and 10: a method's calls go deeper than six, too, if it calls itself by others. */
    private static void callsEndAfterSix() {
        Map<String, Integer> depths = new LinkedHashMap<>();
        BODIES.keySet().forEach(name -> depths.put(name, 1));
        for (int round = 0; round <= 6; round++) {
            for (String name : BODIES.keySet()) {
                CALL.matcher(BODIES.get(name)).results().map(each -> each.group(1)).forEach(called -> {
                    Check.due("rule 3, " + called + " is of this class", BODIES.containsKey(called), true);
                    depths.merge(name, depths.getOrDefault(called, 0) + 1, Math::max);
                });
            }
        }
        depths.forEach((name, depth) ->
                Check.due("rules 8 and 10, calls of " + name + " go at most six deep", depth <= 6, true));
    }
}
