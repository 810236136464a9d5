import java.io.ByteArrayOutputStream;
import java.io.IOException;
import java.io.PrintStream;
import java.lang.reflect.Method;
import java.net.URL;
import java.net.URLClassLoader;
import java.nio.file.Files;
import java.nio.file.Path;
import java.util.ArrayList;
import java.util.List;
import java.util.regex.Matcher;
import java.util.regex.Pattern;
import javax.tools.ToolProvider;

/** Runs the example of README.md, which is to print the numbers that its own comments tell. */
public final class ReadmeTests extends Checks {
    private static final Pattern EXAMPLE = Pattern.compile("```java\n(.*?)```", Pattern.DOTALL);
    private static final Pattern TOLD = Pattern.compile("println\\(.*\\); *// (-?\\d+)");

    public static void main(String[] args) throws Exception {
        Matcher example = EXAMPLE.matcher(Files.readString(Path.of("README.md")));
        due("README.md has an example", example.find(), true);
        String source = example.group(1);
        List<String> told = numbersTold(source);
        due("the example tells numbers", told.isEmpty(), false);
        same("the example", printedBy(source), String.join("\n", told) + "\n");
        endWith("the example prints what it tells");
    }

    private static List<String> numbersTold(String source) {
        List<String> told = new ArrayList<>();
        Matcher number = TOLD.matcher(source);
        while (number.find()) {
            told.add(number.group(1));
        }
        return told;
    }

    private static String printedBy(String source) throws Exception {
        Path place = Files.createTempDirectory("readme");
        Path file = place.resolve("Example.java");
        try {
            compile(source, file);
            return outputOf(place);
        } finally {
            Files.deleteIfExists(place.resolve("Example.class"));
            Files.deleteIfExists(file);
            Files.deleteIfExists(place);
        }
    }

    private static void compile(String source, Path file) throws IOException {
        Files.writeString(file, source);
        String path = System.getProperty("java.class.path");
        int code = ToolProvider.getSystemJavaCompiler().run(
                null, null, null, "--release", "17", "-cp", path, file.toString());
        due("exit code of javac", code, 0);
    }

    private static String outputOf(Path place) throws Exception {
        PrintStream screen = System.out;
        ByteArrayOutputStream printed = new ByteArrayOutputStream();
        try (URLClassLoader loader = new URLClassLoader(new URL[] {place.toUri().toURL()})) {
            Method main = loader.loadClass("Example").getMethod("main", String[].class);
            System.setOut(new PrintStream(printed, true));
            main.invoke(null, (Object) new String[0]);
        } finally {
            System.setOut(screen);
        }
        return printed.toString().replace("\r\n", "\n");
    }
}
