import java.nio.file.Files;
import java.nio.file.Path;
import java.util.Map;
import java.util.TreeMap;
import java.util.regex.Matcher;
import java.util.regex.Pattern;

/** Rules of LANGUAGE.md that can be seen in the program's text. It is run from the project's folder. */
public final class LanguageTest {
    private static final Path PROGRAM = Path.of("src/main/java/ProcessorSharing.java");
    private static final int MOST_DEEP = 6;

    private static final String[] WORDS_RULED_OUT = {
        "package", "import", "float", "double", "String", "Math", "Integer", "Long", "System",
        "Arrays", "Object", "null", "throw", "throws", "try", "catch", "finally", "synchronized",
        "assert", "instanceof", "interface", "enum", "record", "var", "protected", "hashCode",
        "equals", "toString", "getClass", "clone"
    };

    public static void main(String[] args) throws Exception {
        Due due = new Due();
        String code = withoutComments(Files.readString(PROGRAM));
        wordsRuledOutAreAbsent(due, code);
        arraysAreMadeInFieldsAlone(due, code);
        methodsStayShort(due, code);
        Map<String, String> bodies = bodiesOfMethods(code);
        due.holds("the methods were found", bodies.containsKey("run"));
        callsAreNotDeep(due, bodies);
        noCallInsideArguments(due, bodies);
        due.end();
    }

    private static String withoutComments(String text) {
        return text.replaceAll("(?s)/\\*.*?\\*/", "").replaceAll("//[^\n]*", "");
    }

    private static void wordsRuledOutAreAbsent(Due due, String code) {
        for (String word : WORDS_RULED_OUT) {
            due.holds("no word " + word, !Pattern.compile("\\b" + word + "\\b").matcher(code).find());
        }
        due.holds("no lambda", !code.contains("->"));
        due.holds("no method reference", !code.contains("::"));
        due.holds("no text", !code.contains("\""));
    }

    private static void arraysAreMadeInFieldsAlone(Due due, String code) {
        Pattern field = Pattern.compile(
                "private final (int|long|boolean)\\[\\] \\w+ = new \\1\\[[A-Z_0-9]+\\];");
        due.is("new outside a field", count("\\bnew\\b", code), count(field.pattern(), code));
    }

    private static void methodsStayShort(Due due, String code) {
        Matcher method = Pattern.compile("(?m)^    (public|private)[^;=\n]*\\{\n(?s:.*?)^    \\}").matcher(code);
        while (method.find()) {
            String body = method.group();
            String head = body.substring(0, body.indexOf('\n')).trim();
            due.holds("at most 60 lines: " + head, body.lines().count() <= 60);
            due.holds("at most 7 parameters: " + head, count(",", head) <= 6);
        }
    }

    private static Map<String, String> bodiesOfMethods(String code) {
        Map<String, String> bodies = new TreeMap<>();
        Matcher method = Pattern.compile(
                "(?m)^    (?:public|private) \\w+ (\\w+)\\([^)]*\\) \\{\n((?s:.*?))^    \\}").matcher(code);
        while (method.find()) {
            bodies.put(method.group(1), method.group(2));
        }
        return bodies;
    }

    /** A method that calls itself, through others or not, goes deeper than any bound. */
    private static void callsAreNotDeep(Due due, Map<String, String> bodies) {
        for (String name : bodies.keySet()) {
            due.holds("calls go at most six deep from " + name, !goesDeeper(name, MOST_DEEP, bodies));
        }
    }

    private static boolean goesDeeper(String name, int deep, Map<String, String> bodies) {
        if (deep == 0) {
            return true;
        }
        for (String called : bodies.keySet()) {
            if (calls(bodies.get(name), called) && goesDeeper(called, deep - 1, bodies)) {
                return true;
            }
        }
        return false;
    }

    private static boolean calls(String text, String name) {
        return count("\\b" + name + "\\(", text) > 0;
    }

    private static void noCallInsideArguments(Due due, Map<String, String> bodies) {
        for (String body : bodies.values()) {
            for (String outer : bodies.keySet()) {
                Matcher call = Pattern.compile("\\b" + outer + "\\(").matcher(body);
                while (call.find()) {
                    String arguments = untilClosed(body.substring(call.end()));
                    due.holds("no call inside the arguments of " + outer + "(" + arguments + ")",
                            bodies.keySet().stream().noneMatch(inner -> calls(arguments, inner)));
                }
            }
        }
    }

    private static String untilClosed(String text) {
        int open = 1;
        int end = 0;
        while (end < text.length() && open > 0) {
            open += text.charAt(end) == '(' ? 1 : text.charAt(end) == ')' ? -1 : 0;
            end++;
        }
        return text.substring(0, end - 1);
    }

    private static long count(String pattern, String text) {
        return Pattern.compile(pattern).matcher(text).results().count();
    }
}
