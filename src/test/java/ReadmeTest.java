import java.io.IOException;
import java.lang.reflect.Method;
import java.lang.reflect.Modifier;
import java.net.URL;
import java.net.URLClassLoader;
import java.nio.file.Files;
import java.nio.file.Path;
import java.util.ArrayList;
import java.util.HashMap;
import java.util.List;
import java.util.Map;
import java.util.regex.Matcher;
import java.util.regex.Pattern;
import java.util.stream.Stream;
import javax.tools.JavaCompiler;
import javax.tools.ToolProvider;

/**
 * README.md shows what the class answers: its examples are compiled and run as they stand there, its tables of calls and of
 * durations are compared with the class, and each test is named.
 */
final class ReadmeTest {
    private static final String EXAMPLE = "```java";
    private static final String END_OF_EXAMPLE = "```";
    private static final String FIRST_LINE = "SpokenBars bars = new SpokenBars();";

    /** A call on a line of its own, with what it answers behind it: in quotes, or up to a colon. */
    private static final Pattern SHOWN =
            Pattern.compile("(?:int (\\w+) = )?(\\w+\\.\\w+\\(.*\\)); +// (?:\"([^\"]*)\"|([^:]*))(?::.*)?");
    private static final Pattern ROW = Pattern.compile("\\| `(\\w+)\\((.*?)\\)` \\|.*\\|(.*)\\|");
    private static final Pattern EXCEPTION = Pattern.compile("`(\\w+Exception)`:");

    private final List<String> lines;
    private final List<String> calls = new ArrayList<>();
    private final List<String> due = new ArrayList<>();

    private ReadmeTest(List<String> lines) {
        this.lines = lines;
    }

    public static void main(String[] args) throws IOException, ReflectiveOperationException {
        ReadmeTest readme = new ReadmeTest(Files.readAllLines(Path.of("README.md")));
        readme.examples();
        readme.tableOfCalls();
        readme.tableOfDurations();
        readme.tableOfTests();
        Check.end();
    }

    // ---- examples

    private void examples() throws IOException, ReflectiveOperationException {
        String program = programOfExamples();
        Check.isTrue("README.md shows calls", !due.isEmpty());
        List<?> got = answersOf(program);
        Check.equal("number of answers", got.size(), due.size());
        for (int index = 0; index < Math.min(got.size(), due.size()); index++) {
            Check.equal("README.md: " + calls.get(index), got.get(index).toString(), due.get(index));
        }
    }

    /** All examples in one method, each in a block of its own, that hands out what the shown calls answered. */
    private String programOfExamples() {
        StringBuilder program = new StringBuilder("public final class Shown {\n"
                + "    public static java.util.List<String> answers() {\n"
                + "        java.util.List<String> answers = new java.util.ArrayList<>();\n");
        boolean inExample = false;
        for (int index = 0; index < lines.size(); index++) {
            String line = lines.get(index);
            if (line.equals(EXAMPLE)) {
                inExample = true;
                program.append("{\n");
                Check.equal("first line of an example", lines.get(index + 1), FIRST_LINE);
            } else if (inExample && line.equals(END_OF_EXAMPLE)) {
                inExample = false;
                program.append("}\n");
            } else if (inExample) {
                program.append(statementOf(line)).append('\n');
            }
        }
        return program.append("        return answers;\n    }\n}\n").toString();
    }

    private String statementOf(String line) {
        Matcher shown = SHOWN.matcher(line);
        if (!shown.matches()) {
            Check.isTrue("\"" + line + "\" is a call with its answer, or has no comment", !line.contains("//"));
            return line;
        }
        calls.add(shown.group(2));
        due.add(shown.group(3) == null ? shown.group(4).strip() : shown.group(3));
        if (shown.group(1) != null) {
            return "int " + shown.group(1) + " = " + shown.group(2) + ";\nanswers.add(\"\" + " + shown.group(1) + ");";
        }
        return "try { answers.add(\"\" + " + shown.group(2) + "); } catch (RuntimeException thrown) { "
                + "answers.add(\"throws \" + thrown.getClass().getSimpleName()); }";
    }

    private static List<?> answersOf(String program) throws IOException, ReflectiveOperationException {
        Path folder = Files.createTempDirectory("readme");
        try {
            Path source = Files.writeString(folder.resolve("Shown.java"), program);
            JavaCompiler compiler = ToolProvider.getSystemJavaCompiler();
            String classes = System.getProperty("java.class.path");
            if (compiler.run(null, null, null, "-cp", classes, "-d", folder.toString(), source.toString()) != 0) {
                Check.fail("the examples of README.md can't be compiled");
                return List.of();
            }
            try (URLClassLoader loader = new URLClassLoader(new URL[] {folder.toUri().toURL()})) {
                return (List<?>) loader.loadClass("Shown").getMethod("answers").invoke(null);
            }
        } finally {
            for (String name : List.of("Shown.class", "Shown.java", "")) {
                Files.deleteIfExists(folder.resolve(name));
            }
        }
    }

    // ---- tables

    /** Each call of the face has a row with as many arguments, and with the exceptions in the order of the face. */
    private void tableOfCalls() {
        Map<String, String> rows = new HashMap<>();
        for (String line : lines) {
            Matcher row = ROW.matcher(line);
            if (row.matches()) {
                Check.isTrue("one row of " + row.group(1), !rows.containsKey(row.group(1)));
                rows.put(row.group(1), row.group(2).split(", ").length + (row.group(2).isEmpty() ? -1 : 0) + " arguments"
                        + exceptionsIn(row.group(3)));
            }
        }
        int methods = 0;
        for (Method method : SpokenBars.class.getDeclaredMethods()) {
            if (Modifier.isPublic(method.getModifiers())) {
                methods++;
                StringBuilder face = new StringBuilder(method.getParameterCount() + " arguments");
                for (Class<?> thrown : method.getExceptionTypes()) {
                    face.append(' ').append(thrown.getSimpleName());
                }
                Check.equal("the row of " + method.getName(), rows.getOrDefault(method.getName(), "none"), face.toString());
            }
        }
        Check.equal("rows of calls", rows.size(), methods);
    }

    private static String exceptionsIn(String cell) {
        StringBuilder names = new StringBuilder();
        Matcher exception = EXCEPTION.matcher(cell);
        while (exception.find()) {
            names.append(' ').append(exception.group(1));
        }
        return names.toString();
    }

    private void tableOfDurations() {
        StringBuilder durations = new StringBuilder("| duration |");
        StringBuilder words = new StringBuilder("| told as |");
        StringBuilder ticks = new StringBuilder("| ticks |");
        for (int duration = 0; duration <= 9; duration++) {
            Music music = Made.bars(1);
            music.addRest(0, 0, duration);
            String sentence = Check.sentence(music, 0);
            durations.append(' ').append(duration).append(" |");
            words.append(sentence, sentence.indexOf("rest") + 4, sentence.indexOf(" end")).append(" |");
            ticks.append(' ').append(music.event(0, 0, 0, 4)).append(" |");
        }
        for (StringBuilder row : List.of(durations, words, ticks)) {
            Check.isTrue("README.md has the row \"" + row + "\"", lines.contains(row.toString()));
        }
    }

    private void tableOfTests() throws IOException {
        String all = String.join("\n", lines);
        try (Stream<Path> files = Files.list(Path.of("src/test/java"))) {
            for (Path file : files.toList()) {
                String name = file.getFileName().toString().replace(".java", "");
                Check.isTrue("README.md names " + name, all.contains("`" + name + "`"));
            }
        }
    }
}
