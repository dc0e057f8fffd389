import java.io.IOException;
import java.lang.reflect.InvocationTargetException;
import java.lang.reflect.Method;
import java.lang.reflect.Modifier;
import java.net.URL;
import java.net.URLClassLoader;
import java.nio.file.Files;
import java.nio.file.Path;
import java.util.ArrayList;
import java.util.Comparator;
import java.util.List;
import java.util.regex.Matcher;
import java.util.regex.Pattern;
import java.util.stream.Stream;
import javax.tools.JavaCompiler;
import javax.tools.ToolProvider;

/** README.md's examples compile with the class and answer what stands behind them; run from the project's directory. */
public final class ReadmeExamples {
    private static final Path README = Path.of("README.md");
    private static final Path TESTS = Path.of("src/test/java");
    /** A call on the object, and what stands behind it. */
    private static final Pattern CALL = Pattern.compile("(shelf\\.(\\w+)\\(.*\\));(?:\\s*//\\s*([^:]*)(?::.*)?)?");
    private static final Pattern ANSWER = Pattern.compile("-?\\d+|true|false|throws [A-Z][A-Za-z]+Exception");
    private static int wrong = 0;
    private static int checks = 0;

    private final List<String> methods = new ArrayList<>();
    /** The examples as they stand, and with each answer compared. */
    private final List<String> plain = new ArrayList<>();
    private final List<String> checked = new ArrayList<>();

    private static void say(String what) {
        wrong++;
        System.out.println(what);
    }

    /** Called by the examples, once for each answer. */
    public static void due(int line, String call, String want, String got) {
        checks++;
        if (!want.equals(got)) {
            say("README.md, line " + line + ": " + call + " answered " + got + ", not " + want);
        }
    }

    private void readBlocks(List<String> lines) {
        boolean inBlock = false;
        boolean ofMethods = false;
        for (int k = 0; k < lines.size(); k++) {
            String line = lines.get(k);
            if (line.startsWith("```")) {
                inBlock = line.equals("```java");
                ofMethods = inBlock && k + 1 < lines.size() && lines.get(k + 1).startsWith("static ");
            } else if (inBlock && ofMethods) {
                methods.add(line);
            } else if (inBlock) {
                plain.add(line);
                checked.add(withCheck(k + 1, line));
            }
        }
    }

    private static String withCheck(int number, String line) {
        Matcher call = CALL.matcher(line.trim());
        if (!call.matches() || call.group(2).equals("image")) {
            return line;
        }
        String answer = call.group(3) == null ? "" : call.group(3).trim();
        if (!ANSWER.matcher(answer).matches()) {
            say("README.md, line " + number + ": no answer stands behind " + call.group(1));
            return line;
        }
        return "try { got = String.valueOf(" + call.group(1) + "); }"
            + " catch (RuntimeException e) { got = \"throws \" + e.getClass().getSimpleName(); }"
            + " ReadmeExamples.due(" + number + ", \"" + call.group(1) + "\", \"" + answer + "\", got);";
    }

    private String program(String name, List<String> statements) {
        return "public final class " + name + " {\n" + String.join("\n", methods)
            + "\npublic static void run() {\nString got;\n" + String.join("\n", statements) + "\n}\n}\n";
    }

    private static boolean compiles(Path directory, String name, String source) throws IOException {
        Path file = directory.resolve(name + ".java");
        Files.writeString(file, source);
        JavaCompiler compiler = ToolProvider.getSystemJavaCompiler();
        int result = compiler == null ? 1 : compiler.run(null, null, null,
            "-cp", System.getProperty("java.class.path"), "-d", directory.toString(), file.toString());
        if (result != 0) {
            say("README.md: the examples do not compile");
        }
        return result == 0;
    }

    private void runExamples(Path directory) throws IOException, ReflectiveOperationException {
        if (!compiles(directory, "PlainReadme", program("PlainReadme", plain))
            || !compiles(directory, "CheckedReadme", program("CheckedReadme", checked))) {
            return;
        }
        try (URLClassLoader loader = new URLClassLoader(new URL[] {directory.toUri().toURL()})) {
            loader.loadClass("CheckedReadme").getMethod("run").invoke(null);
        } catch (InvocationTargetException e) {
            say("README.md: an example threw " + e.getCause());
        }
    }

    private static void remove(Path directory) throws IOException {
        try (Stream<Path> files = Files.walk(directory)) {
            for (Path file : files.sorted(Comparator.reverseOrder()).toList()) {
                Files.delete(file);
            }
        }
    }

    private void namesAllCalls() {
        String statements = String.join("\n", plain);
        for (Method m : SteadyShelf.class.getDeclaredMethods()) {
            if (Modifier.isPublic(m.getModifiers()) && !statements.contains("shelf." + m.getName() + "(")) {
                say("README.md: no example has " + m.getName());
            }
        }
    }

    private static void namesAllTests(String readme) throws IOException {
        try (Stream<Path> files = Files.list(TESTS)) {
            for (Path file : files.toList()) {
                String name = file.getFileName().toString().replace(".java", "");
                if (!readme.contains("`" + name + "`") && !readme.contains("`" + name + " ")) {
                    say("README.md does not say what " + name + " is for");
                }
            }
        }
    }

    public static void main(String[] args) throws IOException, ReflectiveOperationException {
        ReadmeExamples examples = new ReadmeExamples();
        examples.readBlocks(Files.readAllLines(README));
        Path directory = Files.createTempDirectory("readme");
        try {
            examples.runExamples(directory);
        } finally {
            remove(directory);
        }
        examples.namesAllCalls();
        namesAllTests(Files.readString(README));
        if (checks == 0) {
            say("README.md: no answer was compared");
        }
        System.out.println(checks + " answers of README.md, " + wrong + " faults");
        if (wrong != 0) {
            System.exit(1);
        }
    }
}
