import java.io.IOException;
import java.lang.reflect.Method;
import java.lang.reflect.Modifier;
import java.net.URL;
import java.net.URLClassLoader;
import java.nio.file.Files;
import java.nio.file.Path;
import java.util.ArrayList;
import java.util.List;
import java.util.function.Supplier;
import java.util.regex.Matcher;
import java.util.regex.Pattern;
import javax.tools.ToolProvider;

/** Compiles and runs the example of README.md: each line must answer what its comment tells first. */
public final class ReadmeTest {
    private static final Path README = Path.of("README.md");
    private static final Pattern CALL = Pattern.compile("(tree\\..*); +// (-?\\d+|throws \\w+).*");

    public static void main(String[] args) throws Exception {
        List<String> example = example();
        Path folder = Files.createTempDirectory("readme");
        try {
            answersAsTold(example, folder);
        } finally {
            Files.deleteIfExists(folder.resolve("Example.java"));
            Files.deleteIfExists(folder.resolve("Example.class"));
            Files.deleteIfExists(folder);
        }
        eachMethodIsNamed();
        Check.close("ReadmeTest");
    }

    private static List<String> example() throws IOException {
        List<String> lines = Files.readAllLines(README);
        int start = lines.indexOf("```java") + 1;
        int end = lines.lastIndexOf("```");
        Check.due("README.md has an example", 1, start > 0 && end > start ? 1 : 0);
        return lines.subList(start, Math.max(start, end));
    }

    private static void answersAsTold(List<String> example, Path folder) throws Exception {
        Files.writeString(folder.resolve("Example.java"), source(example));
        int failed = ToolProvider.getSystemJavaCompiler().run(null, null, null,
            "-cp", System.getProperty("java.class.path"), folder.resolve("Example.java").toString());
        Check.due("the compiler, of the example", 0, failed);
        List<?> answers = failed == 0 ? run(folder) : List.of();
        int calls = 0;
        for (String line : example) {
            Matcher call = CALL.matcher(line);
            if (call.matches()) {
                String got = calls < answers.size() ? answers.get(calls).toString() : "nothing";
                Check.same(call.group(1), got, call.group(2));
                calls++;
            }
        }
        Check.due("README.md has calls", 1, calls > 0 ? 1 : 0);
    }

    /** The example as a class that gives the answers of its calls in their order. */
    private static String source(List<String> example) {
        StringBuilder text = new StringBuilder("import java.util.*;\n"
            + "public final class Example implements java.util.function.Supplier<List<?>> {\n"
            + "public List<?> get() {\nList<String> answers = new ArrayList<>();\n");
        for (String line : example) {
            Matcher call = CALL.matcher(line);
            text.append(!call.matches() ? line : "try { answers.add(\"\" + " + call.group(1)
                + "); } catch (RuntimeException e) { answers.add(\"throws \" + e.getClass().getSimpleName()); }");
            text.append('\n');
        }
        return text.append("return answers;\n}\n}\n").toString();
    }

    private static List<?> run(Path folder) throws Exception {
        try (URLClassLoader loader = new URLClassLoader(new URL[] {folder.toUri().toURL()})) {
            Object example = loader.loadClass("Example").getDeclaredConstructor().newInstance();
            return (List<?>) ((Supplier<?>) example).get();
        }
    }

    private static void eachMethodIsNamed() throws IOException {
        String text = Files.readString(README);
        for (Method method : SkipQuadtree.class.getDeclaredMethods()) {
            if (Modifier.isPublic(method.getModifiers())) {
                boolean named = text.contains("tree." + method.getName() + "(");
                Check.due("README.md shows " + method.getName(), 1, named ? 1 : 0);
            }
        }
    }
}
