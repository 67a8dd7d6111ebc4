import java.nio.file.Files;
import java.nio.file.Path;
import java.util.regex.Matcher;
import java.util.regex.Pattern;

/** Rules of LANGUAGE.md that can be seen in the program's text. It is run from the project's folder. */
public final class LanguageTest {
    private static final Path PROGRAM = Path.of("src/main/java/ProcessorSharing.java");

    private static final String[] WORDS_RULED_OUT = {
        "package", "import", "float", "double", "String", "Math", "Integer", "Long", "System",
        "Arrays", "Object", "null", "throw", "throws", "try", "catch", "finally", "synchronized",
        "assert", "instanceof", "interface", "enum", "record", "var", "protected", "hashCode",
        "equals", "toString", "getClass", "clone"
    };

    public static void main(String[] args) throws Exception {
        Due due = new Due();
        String code = withoutComments(Files.readString(PROGRAM));
        wordsRuledOutAreAbsent(due, code);
        arraysAreMadeInFieldsAlone(due, code);
        methodsStayShort(due, code);
        due.end();
    }

    private static String withoutComments(String text) {
        return text.replaceAll("(?s)/\\*.*?\\*/", "").replaceAll("//[^\n]*", "");
    }

    private static void wordsRuledOutAreAbsent(Due due, String code) {
        for (String word : WORDS_RULED_OUT) {
            due.holds("no word " + word, !Pattern.compile("\\b" + word + "\\b").matcher(code).find());
        }
        due.holds("no lambda", !code.contains("->"));
        due.holds("no method reference", !code.contains("::"));
        due.holds("no text", !code.contains("\""));
    }

    private static void arraysAreMadeInFieldsAlone(Due due, String code) {
        Pattern field = Pattern.compile(
                "private final (int|long|boolean)\\[\\] \\w+ = new \\1\\[[A-Z_0-9]+\\];");
        due.is("new outside a field", count("\\bnew\\b", code), count(field.pattern(), code));
    }

    private static void methodsStayShort(Due due, String code) {
        Matcher method = Pattern.compile("(?m)^    (public|private)[^;=\n]*\\{\n(?s:.*?)^    \\}").matcher(code);
        while (method.find()) {
            String body = method.group();
            String head = body.substring(0, body.indexOf('\n')).trim();
            due.holds("at most 60 lines: " + head, body.lines().count() <= 60);
            due.holds("at most 7 parameters: " + head, count(",", head) <= 6);
        }
    }

    private static long count(String pattern, String text) {
        return Pattern.compile(pattern).matcher(text).results().count();
    }
}
