import java.nio.file.Files;
import java.nio.file.Path;
import java.util.Map;
import java.util.TreeMap;
import java.util.regex.Matcher;
import java.util.regex.Pattern;

/** README.md tells every call of the class and what it refuses. It is run from the project's folder. */
public final class ReadmeTest {
    private static final Path README = Path.of("README.md");
    private static final Path PROGRAM = Path.of("src/main/java/ProcessorSharing.java");

    private static final Map<String, Integer> CONSTANTS = Map.of(
            "BAD_SIZE", ProcessorSharing.BAD_SIZE,
            "BAD_TIME", ProcessorSharing.BAD_TIME,
            "FULL", ProcessorSharing.FULL,
            "NO_JOB", ProcessorSharing.NO_JOB,
            "NOT_YET", ProcessorSharing.NOT_YET);

    private static final String[][] REFUSALS = {
        {"submit", "BAD_SIZE", "BAD_TIME", "FULL"},
        {"cancel", "NO_JOB", "NOT_YET"},
        {"state", "NO_JOB"},
        {"had", "NO_JOB"},
        {"admitted", "NO_JOB", "NOT_YET"},
        {"finished", "NO_JOB", "NOT_YET"}
    };

    public static void main(String[] args) throws Exception {
        Due due = new Due();
        due.says("README.md");
        String readme = Files.readString(README);
        Map<String, String> rows = rowsOfCalls(due, readme, Files.readString(PROGRAM));
        refusalsStandInTheRows(due, rows);
        constantsHaveTheirValues(due, readme);
        exampleIsTrue(due, readme);
        due.end();
    }

    /** The last column of each call's row, by the call's name; the rows bear the program's own words. */
    private static Map<String, String> rowsOfCalls(Due due, String readme, String program) {
        Map<String, String> rows = new TreeMap<>();
        Matcher face = Pattern.compile("(?m)^    public ((?:\\w+ )?(\\w+)\\([^)]*\\)) \\{").matcher(program);
        while (face.find()) {
            Matcher row = Pattern.compile(Pattern.quote("| `" + face.group(1) + "` |") + ".*\\|(.*)\\|")
                    .matcher(readme);
            boolean found = row.find();
            due.holds("it has a row for " + face.group(1), found);
            rows.put(face.group(2), found ? row.group(1) : "");
        }
        due.is("rows of calls", rows.size(), 12);
        return rows;
    }

    private static void refusalsStandInTheRows(Due due, Map<String, String> rows) {
        for (String call : rows.keySet()) {
            for (String constant : CONSTANTS.keySet()) {
                boolean told = rows.get(call).contains("`" + constant + "`");
                due.holds(call + " and " + constant, told == refuses(call, constant));
            }
        }
    }

    private static boolean refuses(String call, String constant) {
        for (String[] row : REFUSALS) {
            for (int i = 1; i < row.length; i++) {
                if (row[0].equals(call) && row[i].equals(constant)) {
                    return true;
                }
            }
        }
        return false;
    }

    private static void constantsHaveTheirValues(Due due, String readme) {
        for (Map.Entry<String, Integer> constant : CONSTANTS.entrySet()) {
            String row = "| `" + constant.getKey() + "` | " + constant.getValue() + " |";
            due.holds("it has a row " + row, readme.contains(row));
        }
    }

    /** The calls are the example's, in its order; what stands behind each is looked up in the text. */
    private static void exampleIsTrue(Due due, String readme) {
        Matcher told = Pattern.compile("(?m)^(?:int \\w+ = )?(server\\..*); +// (-?\\d+): ").matcher(readme);
        ProcessorSharing server = new ProcessorSharing();
        int first = server.submit(1000, 0);
        exampleTells(due, told, "server.submit(1000, 0)", first);
        int second = server.submit(500, 1);
        exampleTells(due, told, "server.submit(500, 1)", second);
        exampleTells(due, told, "server.run(2)", server.run(2));
        exampleTells(due, told, "server.finished(first)", server.finished(first));
        exampleTells(due, told, "server.had(second)", server.had(second));
        exampleTells(due, told, "server.state(second)", server.state(second));
        exampleTells(due, told, "server.cancel(second)", server.cancel(second));
        exampleTells(due, told, "server.cancel(second)", server.cancel(second));
        due.holds("the example ends here", !told.find());
    }

    private static void exampleTells(Due due, Matcher told, String call, int answer) {
        boolean found = told.find();
        due.holds("the example goes on with " + call, found && told.group(1).equals(call));
        due.is("the example's " + call, answer, found ? Integer.parseInt(told.group(2)) : Integer.MIN_VALUE);
    }
}
