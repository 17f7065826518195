import java.io.IOException;
import java.lang.reflect.InvocationTargetException;
import java.lang.reflect.Method;
import java.lang.reflect.Modifier;
import java.net.URL;
import java.net.URLClassLoader;
import java.nio.file.Files;
import java.nio.file.Path;
import java.util.ArrayList;
import java.util.Comparator;
import java.util.List;
import java.util.regex.MatchResult;
import java.util.regex.Matcher;
import java.util.regex.Pattern;
import java.util.stream.Stream;
import javax.tools.ToolProvider;

/** The examples of README.md compile, and answer what stands behind them; the calls that it names are those there are. */
public final class ReadmeTest {
    private static final Pattern EXAMPLE = Pattern.compile("(?s)```java\n(.*?)```");
    private static final Pattern ANSWER = Pattern.compile("(?m)^int (\\w+) = (.*); // (-?\\d+)$");

    private ReadmeTest() {
    }

    public static void main(String[] args) throws IOException, ReflectiveOperationException {
        String readme = Files.readString(Path.of("README.md"));
        Matcher example = EXAMPLE.matcher(readme);
        int examples = 0;
        while (example.find()) {
            examples++;
            lookAt("Example" + examples, example.group(1));
        }
        Due.is("there are examples", examples > 0, true);
        everyCall(readme);
        Due.end();
    }

    private static void lookAt(String name, String text) throws IOException, ReflectiveOperationException {
        List<MatchResult> answers = ANSWER.matcher(text).results().toList();
        StringBuilder body = new StringBuilder(text);
        for (int i = 0; i < answers.size(); i++) {
            body.append("got[").append(i).append("] = ").append(answers.get(i).group(1)).append(";\n");
        }
        int[] got = run(name, body.toString(), answers.size());
        Due.is(name + " has answers that are due", got.length > 0, true);
        for (int i = 0; i < got.length; i++) {
            MatchResult answer = answers.get(i);
            Due.is("README: " + answer.group(2), got[i], Integer.parseInt(answer.group(3)));
        }
    }

    private static int[] run(String name, String body, int answers) throws IOException, ReflectiveOperationException {
        Path place = Files.createTempDirectory("readme");
        Path file = place.resolve(name + ".java");
        Files.writeString(file, "public class " + name + " { public static void go(int[] got) {\n" + body + "} }\n");
        int failed = ToolProvider.getSystemJavaCompiler().run(null, null, null, "-cp",
                System.getProperty("java.class.path"), "-d", place.toString(), file.toString());
        int[] got = new int[failed == 0 ? answers : 0];
        URL[] where = {place.toUri().toURL()};
        try (URLClassLoader loader = new URLClassLoader(where, ReadmeTest.class.getClassLoader())) {
            if (failed == 0) {
                loader.loadClass(name).getMethod("go", int[].class).invoke(null, (Object) got);
            }
        } catch (InvocationTargetException e) {
            Due.is(name + " threw " + e.getCause(), 1, 0);
        }
        delete(place);
        return got;
    }

    private static void delete(Path place) throws IOException {
        List<Path> made = new ArrayList<>();
        try (Stream<Path> found = Files.walk(place)) {
            found.sorted(Comparator.reverseOrder()).forEach(made::add);
        }
        for (Path one : made) {
            Files.delete(one);
        }
    }

    private static void everyCall(String readme) {
        String table = String.join("\n", readme.lines().filter(line -> line.startsWith("|")).toList());
        for (Method method : RiceHall.class.getDeclaredMethods()) {
            if (Modifier.isPublic(method.getModifiers())) {
                Due.is("README names " + method.getName(), table.contains("`" + method.getName() + "`"), true);
            }
        }
    }
}
