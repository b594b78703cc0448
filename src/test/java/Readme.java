import java.io.IOException;
import java.nio.charset.StandardCharsets;
import java.nio.file.Files;
import java.nio.file.Path;
import java.util.ArrayList;
import java.util.List;
import java.util.regex.Matcher;
import java.util.regex.Pattern;

/** The text of README.md: its Java examples, made into a class that can be run, and its tables. */
final class Readme {
    static final String EXAMPLES = "ReadmeExamples";
    private static final Path FILE = Path.of("README.md");
    private static final Pattern BLOCK = Pattern.compile("(?ms)^```java\n(.*?)^```$");
    private static final Pattern ROW_OF_CALL = Pattern.compile("(?m)^\\| `((\\w+)\\(.*?\\))` \\| (.*) \\| ?(.*?) ?\\|$");
    private static final Pattern STATEMENT = Pattern.compile("(.*); *// (-?\\d+)(:.*)?");
    private static final Pattern PRINTED = Pattern.compile("println\\(.*\\); *// (-?\\d+)");

    private final String text;

    Readme() throws IOException {
        text = Files.readString(FILE, StandardCharsets.UTF_8);
    }

    boolean tells(String words) {
        return text.contains(words);
    }

    private List<String> blocks() {
        List<String> found = new ArrayList<>();
        Matcher block = BLOCK.matcher(text);
        while (block.find()) {
            found.add(block.group(1));
        }
        return found;
    }

    private static boolean isProgram(String block) {
        return block.startsWith("public ");
    }

    private static boolean isMember(String block) {
        return block.startsWith("static ");
    }

    /** The whole program that the page begins with. */
    String program() {
        for (String block : blocks()) {
            if (isProgram(block)) {
                return block;
            }
        }
        return "";
    }

    /** What that program says that it prints. */
    List<String> printed() {
        List<String> rows = new ArrayList<>();
        Matcher row = PRINTED.matcher(program());
        while (row.find()) {
            rows.add(row.group(1));
        }
        return rows;
    }

    /** Rows of statements whose comment is an answer are compared with it, the others only done. */
    String examples() {
        StringBuilder members = new StringBuilder();
        StringBuilder calls = new StringBuilder();
        int number = 0;
        for (String block : blocks()) {
            if (isMember(block)) {
                members.append(block);
            } else if (!isProgram(block)) {
                calls.append("e").append(number).append("();\n");
                members.append("static void e").append(number).append("() {\n");
                for (String row : block.split("\n")) {
                    members.append(compared(row)).append('\n');
                }
                members.append("}\n");
                number++;
            }
        }
        return "public final class " + EXAMPLES + " {\npublic static void all() {\n" + calls + "}\n" + members + "}\n";
    }

    private static String compared(String row) {
        Matcher statement = STATEMENT.matcher(row);
        if (!statement.matches()) {
            return row;
        }
        String call = statement.group(1);
        return "ReadmeTest.due(\"" + call + "\", " + call + ", " + statement.group(2) + "L);";
    }

    /** Whether an example tells the answer of a call. */
    boolean hasExample(String call) {
        for (String block : blocks()) {
            for (String row : block.split("\n")) {
                if (!isProgram(block) && row.startsWith("land." + call + "(") && STATEMENT.matcher(row).matches()) {
                    return true;
                }
            }
        }
        return false;
    }

    /** Rows of examples that call without telling the answer, or tell it in a way that is not compared. */
    List<String> untold() {
        List<String> rows = new ArrayList<>();
        for (String block : blocks()) {
            for (String row : block.split("\n")) {
                if (row.startsWith("land.") && !STATEMENT.matcher(row).matches()) {
                    rows.add(row);
                }
            }
        }
        return rows;
    }

    /** What the tables tell of a call: with its parameters, what it does, and what it answers below 0; null without a row. */
    String[] row(String call) {
        Matcher row = ROW_OF_CALL.matcher(text);
        while (row.find()) {
            if (row.group(2).equals(call)) {
                return new String[] {row.group(1), row.group(3), row.group(4)};
            }
        }
        return null;
    }
}
