import java.io.IOException;
import java.lang.reflect.Method;
import java.lang.reflect.Modifier;
import java.net.URL;
import java.net.URLClassLoader;
import java.nio.file.DirectoryStream;
import java.nio.file.Files;
import java.nio.file.Path;
import java.util.ArrayList;
import java.util.List;
import java.util.function.Consumer;
import java.util.function.LongSupplier;
import java.util.regex.Matcher;
import java.util.regex.Pattern;
import javax.tools.ToolProvider;

/** The calls that README.md shows are compiled as they stand there, and answer what stands behind them. */
public final class ReadmeTest {
    private static final Pattern CALL = Pattern.compile("(cars\\.(\\w+)\\(.*\\)); +// (-?\\d+|true|false|[A-Z]\\w+Exception): .+");
    private static final String OBJECT = "BlockedCars cars = new BlockedCars();";

    private final List<String> lines;
    private final StringBuilder methods = new StringBuilder();
    private final StringBuilder calls = new StringBuilder();
    private final List<String> told = new ArrayList<>();
    private final List<Long> answers = new ArrayList<>();
    private int asked = 0;

    private ReadmeTest(List<String> lines) {
        this.lines = lines;
    }

    public static void main(String[] args) throws Exception {
        Path main = Path.of(args.length > 0 ? args[0] : "src/main/java/BlockedCars.java").toAbsolutePath();
        Path root = main.resolve("../../../..").normalize();
        ReadmeTest test = new ReadmeTest(Files.readAllLines(root.resolve("README.md")));
        test.gather();
        test.run();
        test.namesEveryCall();
        test.namesEveryTest(root.resolve("src/test/java"));
        Check.end("ReadmeTest");
    }

    /** Methods are taken as they stand there, all that is called goes into one method, in order. */
    private void gather() {
        boolean isCode = false;
        boolean isMethod = false;
        for (String line : lines) {
            if (line.startsWith("```")) {
                isCode = line.equals("```java");
                isMethod = false;
            } else if (isCode) {
                isMethod |= line.startsWith("static ");
                if (isMethod) {
                    methods.append(line).append("\n");
                } else {
                    gatherCall(line);
                }
            }
        }
    }

    private void gatherCall(String line) {
        Matcher call = CALL.matcher(line);
        if (call.matches()) {
            told.add("README.md: " + call.group(1));
            answers.add(due(call.group(3)));
            String isBoolean = call.group(2).equals("goes") ? " ? 1 : 0" : "";
            calls.append("due.accept(() -> ").append(call.group(1)).append(isBoolean).append(");\n");
        } else {
            Check.due("README.md: '" + line + "' is a call with its answer", line.equals(OBJECT) ? 1 : 0, 1);
            calls.append(line).append("\n");
        }
    }

    private static long due(String answer) {
        switch (answer) {
            case "true": return 1;
            case "false": return 0;
            case "NoSuchElementException": return Check.NO_SUCH;
            case "IllegalArgumentException": return Check.ILLEGAL;
            default: return Long.parseLong(answer);
        }
    }

    private void run() throws Exception {
        String program = "import java.util.function.*;\npublic final class ReadmeCalls {\n" + methods
                + "public static void run(Consumer<LongSupplier> due) {\n" + calls + "}\n}\n";
        Path dir = Files.createTempDirectory("readme");
        try {
            Path source = Files.writeString(dir.resolve("ReadmeCalls.java"), program);
            int failed = ToolProvider.getSystemJavaCompiler().run(null, null, null,
                    "-cp", System.getProperty("java.class.path"), "-d", dir.toString(), source.toString());
            Check.due("what README.md shows compiles", failed, 0);
            if (failed == 0) {
                runFrom(dir);
            }
        } finally {
            clear(dir);
        }
        Check.due("all calls of README.md were made", asked, told.size());
    }

    private void runFrom(Path dir) throws Exception {
        Consumer<LongSupplier> next = call -> {
            Check.due(told.get(asked), Check.outcome(call::getAsLong), answers.get(asked));
            asked++;
        };
        try (URLClassLoader loader = new URLClassLoader(new URL[] {dir.toUri().toURL()})) {
            loader.loadClass("ReadmeCalls").getMethod("run", Consumer.class).invoke(null, next);
        }
    }

    private static void clear(Path dir) throws IOException {
        try (DirectoryStream<Path> files = Files.newDirectoryStream(dir)) {
            for (Path file : files) {
                Files.delete(file);
            }
        }
        Files.delete(dir);
    }

    private void namesEveryCall() {
        String text = String.join("\n", lines);
        for (Method method : BlockedCars.class.getDeclaredMethods()) {
            if (Modifier.isPublic(method.getModifiers())) {
                String name = method.getName();
                Check.due("README.md shows " + name, text.contains("cars." + name + "(") ? 1 : 0, 1);
            }
        }
    }

    private void namesEveryTest(Path tests) throws IOException {
        try (DirectoryStream<Path> files = Files.newDirectoryStream(tests, "*Test.java")) {
            for (Path file : files) {
                String row = "| `" + file.getFileName().toString().replace(".java", "") + "` |";
                Check.due("README.md has a row " + row, lines.stream().anyMatch(l -> l.startsWith(row)) ? 1 : 0, 1);
            }
        }
    }
}
