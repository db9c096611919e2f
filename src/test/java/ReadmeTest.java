import java.lang.reflect.Method;
import java.net.URL;
import java.net.URLClassLoader;
import java.nio.file.Files;
import java.nio.file.Path;
import java.util.regex.Matcher;
import java.util.regex.Pattern;
import javax.tools.ToolProvider;

/** The Java of README.md compiles, and each call there answers what stands behind it. */
public final class ReadmeTest {
    private static final Pattern BLOCK = Pattern.compile("(?s)```java\n(.*?)```");
    private static final Pattern ANSWERED = Pattern.compile("(?m)^(soup\\..*\\)); +// (-?\\d+|true|false)\\b.*$");

    private ReadmeTest() {
    }

    public static void main(String[] args) throws Exception {
        StringBuilder members = new StringBuilder();
        StringBuilder body = new StringBuilder();
        int answers = 0;
        Matcher blocks = BLOCK.matcher(Files.readString(Path.of("README.md")));
        while (blocks.find()) {
            String block = blocks.group(1);
            if (block.startsWith("static ")) {
                members.append(block);
                continue;
            }
            Matcher answered = ANSWERED.matcher(block);
            answers += (int) answered.results().count();
            body.append(answered.replaceAll("ReadmeTest.due(\"$1\", $1, $2);"));
        }
        Check.due("answers stand in README.md", answers > 20, true);
        Check.due("each call has its answer", body.toString().contains("\nsoup."), false);
        run("public final class ReadmeCode {\n"
            + members + "public static void main(String[] args) {\n" + body + "}\n}\n");
        Check.finish();
    }

    /** Public, since the code of the page is loaded apart from this test. */
    public static void due(String call, int got, int want) {
        Check.due(call, got, want);
    }

    public static void due(String call, boolean got, boolean want) {
        Check.due(call, got, want);
    }

    private static void run(String code) throws Exception {
        Path folder = Files.createTempDirectory("readme");
        Path source = folder.resolve("ReadmeCode.java");
        Files.writeString(source, code);
        int answer = ToolProvider.getSystemJavaCompiler().run(null, null, null,
            "-cp", System.getProperty("java.class.path"), "-d", folder.toString(), source.toString());
        Check.due("the Java of README.md compiles", answer, 0);
        if (answer == 0) {
            call(folder);
        }
        Files.deleteIfExists(folder.resolve("ReadmeCode.class"));
        Files.delete(source);
        Files.delete(folder);
    }

    private static void call(Path folder) throws Exception {
        try (URLClassLoader loader = new URLClassLoader(new URL[] {folder.toUri().toURL()})) {
            Method main = loader.loadClass("ReadmeCode").getMethod("main", String[].class);
            main.invoke(null, (Object) new String[0]);
        }
    }
}
