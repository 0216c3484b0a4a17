import java.io.File;
import java.nio.file.Files;
import java.nio.file.Path;
import java.util.regex.Matcher;
import java.util.regex.Pattern;
import java.util.stream.Stream;
import javax.tools.ToolProvider;

/** The examples of README.md: each is compiled, and answers what its comments say. */
public final class ReadmeTest {
    private static final Pattern EXAMPLE = Pattern.compile("(?s)```java\n(.*?)```");
    private static final Pattern ANSWER = Pattern.compile("(x\\.(\\w+)\\(.*?\\));\\s+// (true|false|-?\\d+)\\b.*");

    public static void main(String[] args) throws Exception {
        String program = program(Files.readString(Path.of(System.getProperty("project", "."), "README.md")));
        Path room = Files.createTempDirectory("readme");
        try {
            Path file = room.resolve("ReadmeExamples.java");
            Files.writeString(file, program);
            int code = ToolProvider.getSystemJavaCompiler().run(null, null, null, "-d", room.toString(),
                "-cp", System.getProperty("java.class.path"), file.toString());
            Due.due("the examples compile", code, 0);
            if (code == 0) {
                run(room);
            }
        } finally {
            clear(room);
        }
        Due.end("ReadmeTest");
    }

    /** Examples that make an object become methods of their own; the others are methods already. */
    private static String program(String readme) {
        StringBuilder text = new StringBuilder("public class ReadmeExamples {\n");
        StringBuilder main = new StringBuilder("public static void main(String[] args) throws Exception {\n");
        Matcher examples = EXAMPLE.matcher(readme);
        int found = 0;
        int answers = 0;
        while (examples.find()) {
            String example = examples.group(1);
            if (example.startsWith("static ")) {
                text.append(example);
                continue;
            }
            text.append("static void example").append(found).append("() {\n");
            for (String line : example.split("\n")) {
                Matcher m = ANSWER.matcher(line);
                answers += m.matches() ? 1 : 0;
                text.append(m.matches() ? asked(m) : line).append('\n');
            }
            text.append("}\n");
            main.append("example").append(found).append("();\n");
            found++;
        }
        Due.due("examples and answers are found", found >= 2 && answers >= 20, true);
        text.append("static void due(String call, Object got, String want) {\n"
            + "if (!want.equals(\"\" + got)) { throw new IllegalStateException(call + \" is \" + got + \", not \" + want); }\n}\n");
        return text.append(main).append("}\n}\n").toString();
    }

    private static String asked(Matcher m) {
        return "due(\"" + m.group(2) + "\", " + m.group(1) + ", \"" + m.group(3) + "\");";
    }

    private static void run(Path room) throws Exception {
        String path = room + File.pathSeparator + System.getProperty("java.class.path");
        Process java = new ProcessBuilder(Path.of(System.getProperty("java.home"), "bin", "java").toString(),
            "-cp", path, "ReadmeExamples").inheritIO().start();
        Due.due("the examples answer what README.md says", java.waitFor(), 0);
    }

    private static void clear(Path room) throws Exception {
        try (Stream<Path> files = Files.list(room)) {
            for (Path file : files.toList()) {
                Files.delete(file);
            }
        }
        Files.delete(room);
    }
}
