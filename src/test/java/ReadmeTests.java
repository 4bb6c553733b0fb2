import java.io.IOException;
import java.lang.reflect.Method;
import java.lang.reflect.Modifier;
import java.net.URL;
import java.net.URLClassLoader;
import java.nio.file.Files;
import java.nio.file.Path;
import java.util.ArrayList;
import java.util.List;
import java.util.regex.Matcher;
import java.util.regex.Pattern;
import javax.tools.ToolProvider;

/** What README.md says of the class: its examples are compiled and run as they stand there. */
public final class ReadmeTests {
    private static final Pattern BLOCK = Pattern.compile("```java\n(.*?)```", Pattern.DOTALL);
    private static final Pattern CALL = Pattern.compile("(x\\.\\w+\\(.*\\)); +// (-?\\d+|[A-Z]+)(:.*)?");
    private static final Pattern CONSTANT = Pattern.compile("\\| `([A-Z]+)` \\| (-\\d+) \\|");
    private static final Check CHECK = new Check("ReadmeTests");

    /** The calls of all examples, and what the page says that they answer. */
    private final List<String> calls = new ArrayList<>();
    private final List<Integer> answers = new ArrayList<>();

    public static void main(String[] args) throws IOException, ReflectiveOperationException {
        Path source = Path.of(System.getProperty("runnernet.source", "src/main/java/RunnerNet.java"));
        String page = Files.readString(source.toAbsolutePath().resolve("../../../../README.md").normalize());
        new ReadmeTests().examples(page);
        constants(page);
        face(page);
        CHECK.end();
    }

    private void examples(String page) throws IOException, ReflectiveOperationException {
        StringBuilder statements = new StringBuilder();
        StringBuilder members = new StringBuilder();
        Matcher block = BLOCK.matcher(page);
        while (block.find()) {
            if (block.group(1).startsWith("static ")) {
                members.append(block.group(1));
            } else {
                statements.append("{\n");
                block.group(1).lines().forEach(line -> statements.append(statement(line)).append('\n'));
                statements.append("}\n");
            }
        }
        List<?> got = run("public final class ReadmeExamples {\n" + members
            + "public static java.util.List<Integer> answers() {\n"
            + "java.util.List<Integer> got = new java.util.ArrayList<>();\n" + statements + "return got;\n}\n}\n");
        CHECK.due("answers of the examples", calls.size(), got.size());
        CHECK.holds("examples with answers", calls.size() > 30);
        for (int i = 0; i < calls.size() && i < got.size(); i++) {
            CHECK.due(calls.get(i), answers.get(i), (Integer) got.get(i));
        }
    }

    /** A line of an example; if it is a call, its answer is kept. */
    private String statement(String line) {
        Matcher call = CALL.matcher(line);
        if (!call.matches()) {
            CHECK.holds("a call without an answer told: " + line, !line.startsWith("x."));
            return line;
        }
        calls.add(call.group(1));
        answers.add(number(call.group(2)));
        return "got.add(" + call.group(1) + ");";
    }

    private static int number(String told) {
        return switch (told) {
            case "NONE" -> RunnerNet.NONE;
            case "UNKNOWN" -> RunnerNet.UNKNOWN;
            case "OUTSIDE" -> RunnerNet.OUTSIDE;
            case "NOT" -> RunnerNet.NOT;
            case "FULL" -> RunnerNet.FULL;
            default -> Integer.parseInt(told);
        };
    }

    private static List<?> run(String code) throws IOException, ReflectiveOperationException {
        Path room = Files.createTempDirectory("readme");
        Path file = room.resolve("ReadmeExamples.java");
        Path made = room.resolve("ReadmeExamples.class");
        try {
            Files.writeString(file, code);
            int failed = ToolProvider.getSystemJavaCompiler().run(null, null, null,
                "-cp", System.getProperty("java.class.path"), "-d", room.toString(), file.toString());
            CHECK.due("the examples compile", 0, failed);
            if (failed != 0) {
                return List.of();
            }
            try (URLClassLoader loader = new URLClassLoader(new URL[] {room.toUri().toURL()})) {
                return (List<?>) loader.loadClass("ReadmeExamples").getMethod("answers").invoke(null);
            }
        } finally {
            Files.deleteIfExists(made);
            Files.deleteIfExists(file);
            Files.deleteIfExists(room);
        }
    }

    private static void constants(String page) throws ReflectiveOperationException {
        Matcher row = CONSTANT.matcher(page);
        int rows = 0;
        while (row.find()) {
            rows++;
            CHECK.due(row.group(1), Integer.parseInt(row.group(2)), RunnerNet.class.getField(row.group(1)).getInt(null));
        }
        CHECK.due("constants told", 5, rows);
    }

    /** Each call of the face stands in the table of all calls, with so many arguments. */
    private static void face(String page) {
        for (Method method : RunnerNet.class.getDeclaredMethods()) {
            int arguments = method.getParameterCount();
            String told = "`" + method.getName() + "\\(" + (arguments == 0 ? "" : "\\w+" + ", \\w+".repeat(arguments - 1)) + "\\)`";
            boolean inTable = Pattern.compile("\n\\| [^|\n]*" + told).matcher(page).find();
            CHECK.holds("in the table: " + told, !Modifier.isPublic(method.getModifiers()) || inTable);
        }
    }
}
