import java.nio.file.Files;
import java.nio.file.Path;
import java.util.ArrayList;
import java.util.List;
import java.util.regex.Matcher;
import java.util.regex.Pattern;
import javax.tools.ToolProvider;

/** The example of README.md, run as it stands there: each call answers what stands behind it. Argument: the file. */
public final class ReadmeTest {
    private static final Pattern CALL = Pattern.compile("(hut\\..*); +// (-?\\d+): .*");
    private static final int LEAST_CALLS = 20;

    private static int calls;
    private static int wrong;

    private ReadmeTest() { }

    /** The compiled example tells its answers here. */
    public static void due(String call, long got, long want) {
        calls++;
        if (got != want) {
            wrong++;
            System.out.println("README.md: " + call + " answered " + got + ", it says " + want);
        }
    }

    private static List<String> example(Path readme) throws Exception {
        List<String> lines = new ArrayList<>();
        boolean inside = false;
        for (String line : Files.readAllLines(readme)) {
            if (line.startsWith("```")) {
                inside = line.equals("```java");
            } else if (inside) {
                lines.add(line);
            }
        }
        return lines;
    }

    private static String program(List<String> example) {
        StringBuilder source = new StringBuilder("public final class Example { public static void play() {\n");
        for (String line : example) {
            Matcher call = CALL.matcher(line);
            if (call.matches()) {
                source.append("ReadmeTest.due(\"").append(call.group(1)).append("\", ");
                source.append(call.group(1)).append(", ").append(call.group(2)).append(");\n");
            } else {
                source.append(line).append('\n');
            }
        }
        return source.append("} }\n").toString();
    }

    private static void play(String program) throws Exception {
        Path place = Files.createTempDirectory("example");
        Path source = place.resolve("Example.java");
        Path made = place.resolve("Example.class");
        try {
            Files.writeString(source, program);
            String classes = System.getProperty("java.class.path");
            int code = ToolProvider.getSystemJavaCompiler().run(null, null, null,
                "-encoding", "UTF-8", "-cp", classes, "-d", place.toString(), source.toString());
            if (code != 0) {
                wrong++;
                System.out.println("README.md: the example does not compile");
                return;
            }
            ClassLoader loader = new Loader(Files.readAllBytes(made));
            loader.loadClass("Example").getMethod("play").invoke(null);
        } finally {
            Files.deleteIfExists(made);
            Files.deleteIfExists(source);
            Files.deleteIfExists(place);
        }
    }

    /** Knows the example, beside the classes of the test. */
    private static final class Loader extends ClassLoader {
        private final byte[] example;

        Loader(byte[] example) {
            super(ReadmeTest.class.getClassLoader());
            this.example = example;
        }

        @Override protected Class<?> findClass(String name) {
            return defineClass(name, example, 0, example.length);
        }
    }

    public static void main(String[] args) throws Exception {
        play(program(example(Path.of(args.length > 0 ? args[0] : "README.md"))));
        if (calls < LEAST_CALLS) {
            wrong++;
            System.out.println("README.md: only " + calls + " calls with their answers");
        }
        System.out.println(wrong == 0 ? calls + " calls of README.md answer as it says" : wrong + " things are not as README.md says");
        if (wrong != 0) { System.exit(1); }
    }
}
