import java.net.URL;
import java.net.URLClassLoader;
import java.nio.file.Files;
import java.nio.file.Path;
import java.util.Set;
import java.util.TreeSet;
import java.util.regex.Matcher;
import java.util.regex.Pattern;
import javax.tools.ToolProvider;

/** The block of Java in README.md: it compiles, uses every call of the face, and each call answers what stands there. */
public final class ReadmeTest {
    private static final Pattern BLOCK = Pattern.compile("(?s)```java\\n(.*?)```");
    private static final Pattern TOLD = Pattern.compile("(?m)^picture\\.(\\w+)(\\(.*\\)); +// (-?\\d+)(: .*)?$");
    private static final Pattern UNTOLD = Pattern.compile("(?m)^picture\\.");

    private static final Checks checks = new Checks("ReadmeTest");

    public static void main(String[] args) throws Exception {
        Matcher block = BLOCK.matcher(Files.readString(Path.of("README.md")));
        checks.sentence("README.md");
        checks.need("a block of Java", block.find());
        String code = block.group(1);
        checks.need("every call is told with its answer", !UNTOLD.matcher(TOLD.matcher(code).replaceAll("")).find());
        checks.due("calls of the face that are not told", untold(code), 0);
        run(TOLD.matcher(code).replaceAll("ReadmeTest.due(\"$1$2\", picture.$1$2, $3L);"));
        checks.end();
    }

    /** What the compiled block calls. */
    public static void due(String call, long got, long want) {
        checks.due(call, got, want);
    }

    private static int untold(String code) {
        Set<String> left = new TreeSet<>();
        for (var method : HandsPicture.class.getDeclaredMethods()) {
            if ((method.getModifiers() & 1) == 1) left.add(method.getName());
        }
        Matcher told = TOLD.matcher(code);
        while (told.find()) left.remove(told.group(1));
        if (!left.isEmpty()) System.out.println("not told: " + left);
        return left.size();
    }

    private static void run(String body) throws Exception {
        Path place = Files.createTempDirectory("readme");
        Path source = place.resolve("ReadmeBlock.java");
        Files.writeString(source, "public class ReadmeBlock { public static void main(String[] args) {\n" + body + "}}\n");
        String path = System.getProperty("java.class.path");
        int refused = ToolProvider.getSystemJavaCompiler().run(null, null, null, "-cp", path, "-d", place.toString(),
                source.toString());
        checks.due("the compiler", refused, 0);
        if (refused == 0) {
            try (URLClassLoader loader = new URLClassLoader(new URL[] {place.toUri().toURL()})) {
                loader.loadClass("ReadmeBlock").getMethod("main", String[].class).invoke(null, (Object) new String[0]);
            }
        }
        Files.deleteIfExists(place.resolve("ReadmeBlock.class"));
        Files.delete(source);
        Files.delete(place);
    }
}
