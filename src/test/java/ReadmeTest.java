import java.io.ByteArrayOutputStream;
import java.io.File;
import java.io.IOException;
import java.io.PrintStream;
import java.lang.reflect.Method;
import java.lang.reflect.Modifier;
import java.net.URL;
import java.net.URLClassLoader;
import java.nio.charset.StandardCharsets;
import java.nio.file.Files;
import java.nio.file.Path;
import java.util.List;
import java.util.TreeSet;
import java.util.regex.Matcher;
import java.util.regex.Pattern;
import java.util.stream.Collectors;
import java.util.stream.Stream;

/** README.md tells every call, as the document does, and its examples answer what it says. */
public final class ReadmeTest {
    private static final Path DOCUMENT = Path.of("../shared/DOC.md"), TESTS = Path.of("src/test/java");
    private static final Pattern CODE = Pattern.compile("\\b(BAD|NO|FULL|NONE)\\b|(?<![\\w-])-\\d+\\b");

    private final Readme readme = new Readme();
    private final Path dir = Files.createTempDirectory("readme");

    private ReadmeTest() throws IOException {
    }

    public static void main(String[] args) throws Exception {
        ReadmeTest test = new ReadmeTest();
        try {
            test.checkExamples();
            test.checkProgram();
        } finally {
            test.clean();
        }
        test.checkCalls();
        test.checkTestNames();
        Check.end();
    }

    /** For the examples, which are compiled anew and call it. */
    public static void due(String call, long got, long want) {
        Check.due("README.md: " + call, got, want);
    }

    private void checkExamples() throws Exception {
        int had = Check.rows();
        Class<?> examples = compiled(Readme.EXAMPLES, readme.examples());
        if (examples != null) {
            examples.getMethod("all").invoke(null);
        }
        Check.holds("README.md: there are examples", Check.rows() > had + 1);
        Check.holds("README.md: answers that are not compared: " + readme.untold(), readme.untold().isEmpty());
    }

    private void checkProgram() throws Exception {
        Class<?> program = compiled("First", readme.program());
        List<String> want = readme.printed();
        List<String> got = program == null ? List.of() : printedBy(program);
        Check.holds("README.md: First prints " + want + ", it printed " + got, !want.isEmpty() && want.equals(got));
    }

    private Class<?> compiled(String name, String source) throws Exception {
        Path file = dir.resolve(name + ".java");
        Files.writeString(file, source, StandardCharsets.UTF_8);
        String path = System.getProperty("java.class.path");
        int exit = new ProcessBuilder("javac", "-encoding", "UTF-8", "-cp", path, "-d", dir.toString(), file.toString())
            .inheritIO().start().waitFor();
        Check.due("README.md: javac of " + name, exit, 0);
        if (exit != 0) {
            return null;
        }
        URLClassLoader loader = new URLClassLoader(new URL[] {dir.toUri().toURL()}, ReadmeTest.class.getClassLoader());
        return loader.loadClass(name);
    }

    private static List<String> printedBy(Class<?> program) throws Exception {
        ByteArrayOutputStream bytes = new ByteArrayOutputStream();
        PrintStream console = System.out;
        System.setOut(new PrintStream(bytes, true, StandardCharsets.UTF_8));
        try {
            program.getMethod("main", String[].class).invoke(null, (Object) new String[0]);
        } finally {
            System.setOut(console);
        }
        return bytes.toString(StandardCharsets.UTF_8).lines().collect(Collectors.toList());
    }

    private void clean() throws IOException {
        File[] files = dir.toFile().listFiles();
        for (File file : files == null ? new File[0] : files) {
            Files.delete(file.toPath());
        }
        Files.delete(dir);
    }

    private void checkCalls() throws IOException {
        String document = Files.exists(DOCUMENT) ? Files.readString(DOCUMENT, StandardCharsets.UTF_8) : null;
        int calls = 0;
        for (Method method : OnlyPrimes.class.getDeclaredMethods()) {
            if (Modifier.isPublic(method.getModifiers())) {
                checkCall(method.getName(), document);
                calls++;
            }
        }
        Check.due("calls but for the constructor", calls, 33);
    }

    private void checkCall(String call, String document) {
        Check.holds("README.md has an example with an answer of " + call, readme.hasExample(call));
        String[] row = readme.row(call);
        Check.holds("README.md has a row for " + call, row != null);
        if (row == null || document == null) {
            return;
        }
        Matcher face = Pattern.compile("    public \\w+ " + call + "\\((.*)\\);").matcher(document);
        Check.holds("the document's face has " + call, face.find());
        String parameters = face.group(1).replaceAll("\\w+ (\\w+)", "$1");
        Check.holds("README.md tells " + call + "(" + parameters + ")", row[0].equals(call + "(" + parameters + ")"));
        Matcher promise = Pattern.compile("(?s)## Promise \\d+: " + call + "\n(.*?)\n## ").matcher(document);
        Check.holds("the document promises " + call, promise.find());
        checkCodes(call, codes(promise.group(1)), codes(row[1] + " " + row[2]), codes(row[2]));
    }

    /** BAD and its like, and numbers below 0: README.md tells all that the promise tells. */
    private static void checkCodes(String call, TreeSet<String> promised, TreeSet<String> told, TreeSet<String> below) {
        Check.holds("README.md tells of " + call + " " + promised + ", it has " + told, told.containsAll(promised));
        TreeSet<String> more = new TreeSet<>(below);
        more.removeAll(promised);
        more.removeAll(List.of("-1", "-2", "-3", "-4"));
        Check.holds("README.md tells of " + call + " more than is promised: " + more, more.isEmpty());
    }

    private static TreeSet<String> codes(String words) {
        TreeSet<String> found = new TreeSet<>();
        Matcher code = CODE.matcher(words);
        while (code.find()) {
            found.add(code.group());
        }
        return found;
    }

    private void checkTestNames() throws IOException {
        try (Stream<Path> files = Files.list(TESTS)) {
            for (Path file : files.collect(Collectors.toList())) {
                String name = file.getFileName().toString().replace(".java", "");
                if (name.endsWith("Test")) {
                    Check.holds("README.md tells of " + name, readme.tells("`" + name + "`"));
                }
            }
        }
    }
}
