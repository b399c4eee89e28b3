import java.io.ByteArrayOutputStream;
import java.io.IOException;
import java.io.PrintStream;
import java.net.URI;
import java.net.URL;
import java.net.URLClassLoader;
import java.nio.file.Files;
import java.nio.file.Path;
import java.util.List;
import javax.tools.JavaCompiler;
import javax.tools.JavaFileObject;
import javax.tools.SimpleJavaFileObject;
import javax.tools.ToolProvider;

/** README.md: its example compiles as it stands there, and prints what is told behind it; all calls are named. */
public final class ReadmeTest {
    public static void main(String[] args) throws IOException, ReflectiveOperationException {
        String readme = Files.readString(Path.of("README.md"));
        String example = block(readme, "```java\n", 0);
        String told = block(readme, "```\n", readme.indexOf("It prints"));
        Checks.holds("the example prints what is told: " + printed(example), told.equals(printed(example)));
        for (java.lang.reflect.Method method : PictureCodingHouse.class.getDeclaredMethods()) {
            if (java.lang.reflect.Modifier.isPublic(method.getModifiers())) {
                Checks.holds("README names " + method.getName(), readme.contains("`" + method.getName() + "`"));
            }
        }
        for (String file : new java.io.File("src/test/java").list()) {
            Checks.holds("README names " + file, readme.contains("`" + file.replace(".java", "") + "`"));
        }
        Checks.end();
    }

    private static String block(String text, String opening, int from) {
        int first = text.indexOf(opening, from) + opening.length();
        return text.substring(first, text.indexOf("```", first));
    }

    private static String printed(String example) throws IOException, ReflectiveOperationException {
        JavaCompiler compiler = ToolProvider.getSystemJavaCompiler();
        Path build = Files.createTempDirectory("readme");
        JavaFileObject source = new SimpleJavaFileObject(URI.create("string:///Example.java"), JavaFileObject.Kind.SOURCE) {
            @Override
            public CharSequence getCharContent(boolean ignoreEncodingErrors) {
                return example;
            }
        };
        List<String> options = List.of("-d", build.toString(), "-cp", System.getProperty("java.class.path"));
        boolean compiles = compiler.getTask(null, null, null, options, null, List.of(source)).call();
        Checks.holds("the example compiles", compiles);
        ByteArrayOutputStream bytes = new ByteArrayOutputStream();
        PrintStream before = System.out;
        try (URLClassLoader loader = new URLClassLoader(new URL[] {build.toUri().toURL()})) {
            System.setOut(new PrintStream(bytes, true));
            loader.loadClass("Example").getMethod("main", String[].class).invoke(null, (Object) new String[0]);
        } finally {
            System.setOut(before);
            Files.deleteIfExists(build.resolve("Example.class"));
            Files.deleteIfExists(build);
        }
        return bytes.toString().replace("\r\n", "\n");
    }
}
