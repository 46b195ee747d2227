import java.io.IOException;
import java.lang.reflect.Method;
import java.lang.reflect.Modifier;
import java.net.URL;
import java.net.URLClassLoader;
import java.nio.charset.StandardCharsets;
import java.nio.file.Files;
import java.nio.file.Path;
import java.util.TreeSet;
import java.util.function.BiConsumer;
import java.util.regex.Matcher;
import java.util.regex.Pattern;
import javax.tools.ToolProvider;

/**
 * README.md must be true: its Java is compiled as it stands there, and each call with a number behind it
 * ("it.town(28);   // 2: lines") must answer that number. Each call of the face must be shown so.
 */
public final class ReadmeTest {
    private static final Pattern BLOCK = Pattern.compile("(?s)```java\n(.*?)```");
    private static final Pattern SHOWN = Pattern.compile("\\s*((?:it\\.)?(\\w+)\\(.*\\));\\s+// (-?[0-9]+)\\b.*");
    private static final String NAME = "ReadmeRuns";

    private final StringBuilder helpers = new StringBuilder();
    private final StringBuilder runs = new StringBuilder();
    private final TreeSet<String> shown = new TreeSet<>();

    private ReadmeTest() {
    }

    public static void main(String[] args) throws Exception {
        ReadmeTest test = new ReadmeTest();
        test.read(Files.readString(Path.of("README.md"), StandardCharsets.UTF_8));
        for (Method m : SmokesApart.class.getDeclaredMethods())
            if (Modifier.isPublic(m.getModifiers())) Check.due(m.getName() + " is shown", test.shown.contains(m.getName()) ? 1 : 0, 1);
        Path folder = Files.createTempDirectory("readme");
        try {
            test.run(folder);
        } finally {
            for (Path left : Files.list(folder).toList()) Files.delete(left);
            Files.delete(folder);
        }
        Check.end();
    }

    /** A block that makes an object is a run of calls; any other one is a method that runs may use. */
    private void read(String readme) {
        Matcher block = BLOCK.matcher(readme);
        while (block.find()) {
            String java = block.group(1);
            if (!java.contains("new SmokesApart()")) helpers.append(java);
            else runs.append("{\n").append(java.lines().map(this::held).reduce("", String::concat)).append("}\n");
        }
    }

    private String held(String line) {
        Matcher call = SHOWN.matcher(line);
        if (!call.matches()) return line + "\n";
        shown.add(call.group(2));
        String text = call.group(1).replace("\\", "\\\\").replace("\"", "\\\"");
        return "due.accept(\"README: " + text + "\", new long[] {" + call.group(1) + ", " + call.group(3) + "});\n";
    }

    private void run(Path folder) throws IOException, ReflectiveOperationException {
        String head = "public static void run(java.util.function.BiConsumer<String, long[]> due) {\n";
        String source = "public final class " + NAME + " {\n" + helpers + head + runs + "}\n}\n";
        Path file = Files.writeString(folder.resolve(NAME + ".java"), source);
        int failed = ToolProvider.getSystemJavaCompiler().run(null, null, null, "-proc:none", "-d", folder.toString(),
            "-cp", System.getProperty("java.class.path"), file.toString());
        Check.due("README: its Java compiles", failed, 0);
        if (failed != 0) return;
        try (URLClassLoader loader = new URLClassLoader(new URL[] {folder.toUri().toURL()})) {
            BiConsumer<String, long[]> due = (call, both) -> Check.due(call, both[0], both[1]);
            loader.loadClass(NAME).getMethod("run", BiConsumer.class).invoke(null, due);
        }
    }
}
