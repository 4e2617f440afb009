import java.io.IOException;
import java.net.URL;
import java.net.URLClassLoader;
import java.nio.file.Files;
import java.nio.file.Path;
import java.util.ArrayList;
import java.util.Comparator;
import java.util.List;
import java.util.Set;
import java.util.TreeSet;
import java.util.regex.Matcher;
import java.util.regex.Pattern;
import java.util.stream.Stream;
import javax.tools.ToolProvider;

/** README.md's example is compiled as it stands there, and each of its calls must answer what stands behind it. */
public final class ReadmeTest {
    private static final Path README = Path.of("README.md");
    private static final Pattern BLOCK = Pattern.compile("(?s)```java\n(.*?)```");
    private static final Pattern CALL = Pattern.compile("x\\.(\\w+)\\(.*?\\);");
    private static final Pattern ANSWERED = Pattern.compile("(x\\.\\w+\\([^;]*\\)); +// (-?[0-9]+|[A-Z]+)(: .*)?");
    private static final Check check = new Check();
    private static final Set<String> answered = new TreeSet<>();

    public static void main(String[] args) throws IOException, ReflectiveOperationException {
        List<String> blocks = blocks();
        check.due("README.md has so many pieces of Java", blocks.size(), 2);
        if (blocks.size() == 2) {
            run(source(blocks.get(0), blocks.get(1)));
        }
        textBlock();
        check.same("the calls that the example has", answered.toString(), face().toString());
        check.holds("README.md tells how to run the tests", Files.readString(README).contains("`.ci/run`"));
        check.finish("ReadmeTest");
    }

    /** The text that README.md shows, line by line, is one. */
    private static void textBlock() throws IOException {
        Matcher block = Pattern.compile("(?s)```text\n(.*?)```").matcher(Files.readString(README));
        boolean is = block.find();
        check.holds("README.md shows a text", is);
        check.due("README.md: load of its text", is ? Check.load(new EnumRules(), block.group(1)) : 0, 2);
    }

    /** Called by the example; public, as the example comes from another loader. */
    public static void due(String call, int got, int want) {
        check.due("README.md: " + call, got, want);
    }

    private static List<String> blocks() throws IOException {
        List<String> blocks = new ArrayList<>();
        Matcher block = BLOCK.matcher(Files.readString(README));
        while (block.find()) {
            blocks.add(block.group(1));
        }
        return blocks;
    }

    private static Set<String> face() {
        Set<String> names = new TreeSet<>();
        for (java.lang.reflect.Method m : EnumRules.class.getMethods()) {
            if (m.getDeclaringClass() == EnumRules.class) {
                names.add(m.getName());
            }
        }
        return names;
    }

    private static String source(String methods, String example) {
        StringBuilder source = new StringBuilder("public final class Example {\n").append(methods);
        source.append("public static void run() {\n");
        for (String line : example.split("\n")) {
            source.append(asked(line)).append('\n');
        }
        return source.append("}\n}\n").toString();
    }

    private static String asked(String line) {
        Matcher call = CALL.matcher(line);
        if (!call.lookingAt()) {
            return line;
        }
        Matcher row = ANSWERED.matcher(line);
        boolean tells = row.matches();
        check.holds("README.md tells the answer: " + line, tells);
        if (!tells) {
            return line;
        }
        answered.add(call.group(1));
        String want = row.group(2);
        boolean isCode = Character.isLetter(want.charAt(0));
        return "ReadmeTest.due(\"" + row.group(1) + "\", " + row.group(1) + ", " + (isCode ? "EnumRules." : "") + want + ");";
    }

    private static void run(String source) throws IOException, ReflectiveOperationException {
        Path dir = Files.createTempDirectory("readme");
        try {
            Path file = dir.resolve("Example.java");
            Files.writeString(file, source);
            int compiled = ToolProvider.getSystemJavaCompiler().run(null, null, null,
                "-cp", System.getProperty("java.class.path"), "-d", dir.toString(), file.toString());
            check.due("javac of README.md's example", compiled, 0);
            if (compiled == 0) {
                runIn(dir);
            }
        } finally {
            remove(dir);
        }
    }

    private static void runIn(Path dir) throws IOException, ReflectiveOperationException {
        try (URLClassLoader loader = new URLClassLoader(new URL[] {dir.toUri().toURL()}, ReadmeTest.class.getClassLoader())) {
            loader.loadClass("Example").getMethod("run").invoke(null);
        }
    }

    private static void remove(Path dir) throws IOException {
        try (Stream<Path> all = Files.walk(dir)) {
            for (Path path : all.sorted(Comparator.reverseOrder()).toList()) {
                Files.delete(path);
            }
        }
    }
}
