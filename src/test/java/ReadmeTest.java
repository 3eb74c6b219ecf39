import java.io.IOException;
import java.lang.reflect.Method;
import java.lang.reflect.Modifier;
import java.net.URL;
import java.net.URLClassLoader;
import java.nio.file.Files;
import java.nio.file.Path;
import java.util.Set;
import java.util.TreeSet;
import java.util.regex.Matcher;
import java.util.regex.Pattern;
import javax.tools.ToolProvider;

/** README.md says what is so: its use compiles and answers as it says, and its table of calls is the face. */
public final class ReadmeTest {
    private static final Path README = Path.of("README.md");
    private static final Path BUILD = Path.of("build", "readme");
    /** A call of the use, with the answer that the page says of it. */
    private static final Pattern ANSWERED = Pattern.compile("(?m)^(x\\.[^;]*);\\s*// (-?\\d+)\\b.*$");
    private static int wrong = 0;

    private ReadmeTest() {
    }

    /** Called by the class that is made of the use. */
    public static void due(String call, long want, long got) {
        hold(want == got, call + " answered " + got + ", the page says " + want);
    }

    private static void hold(boolean so, String what) {
        if (!so) {
            wrong++;
            System.out.println("not so: " + what);
        }
    }

    public static void main(String[] args) throws IOException, ReflectiveOperationException {
        String page = Files.readString(README);
        use(page);
        calls(page);
        constants(page);
        System.out.println(wrong == 0 ? "README.md says what is so" : "README.md says what is not so");
        if (wrong != 0) {
            System.exit(1);
        }
    }

    private static void use(String page) throws IOException, ReflectiveOperationException {
        Matcher block = Pattern.compile("(?s)```java\n(.*?)```").matcher(page);
        hold(block.find(), "there is a use");
        Matcher answered = ANSWERED.matcher(block.group(1));
        hold(answered.results().count() > 20, "the use says its answers");
        String body = answered.reset().replaceAll("ReadmeTest.due(\"$1\", $2, $1);");
        hold(!Pattern.compile("(?m)^x\\.").matcher(body).find(), "every call of the use says its answer");
        Files.createDirectories(BUILD);
        Path file = BUILD.resolve("Use.java");
        Files.writeString(file, "public class Use {\n public static void main(String[] args) {\n" + body + "}\n}\n");
        int failed = ToolProvider.getSystemJavaCompiler().run(null, null, null, "-cp",
            System.getProperty("java.class.path"), "-d", BUILD.toString(), file.toString());
        hold(failed == 0, "the use compiles");
        if (failed == 0) {
            try (URLClassLoader loader = new URLClassLoader(new URL[] {BUILD.toUri().toURL()})) {
                loader.loadClass("Use").getMethod("main", String[].class).invoke(null, (Object) new String[0]);
            }
        }
    }

    /** The calls of the table's second column, by their names and how many numbers they take. */
    private static void calls(String page) {
        String table = page.substring(page.indexOf("| what for"), page.indexOf("## Tests"));
        Set<String> shown = new TreeSet<>();
        Matcher call = Pattern.compile("`(\\w+)\\(([^)]*)\\)`").matcher(table);
        while (call.find()) {
            int numbers = call.group(2).isEmpty() ? 0 : call.group(2).split(", ").length;
            hold(shown.add(call.group(1) + " " + numbers), "once in the table: " + call.group());
        }
        Set<String> face = new TreeSet<>();
        for (Method m : RankStairs.class.getDeclaredMethods()) {
            if (Modifier.isPublic(m.getModifiers())) {
                face.add(m.getName() + " " + m.getParameterCount());
            }
        }
        hold(shown.equals(face), "the table has the face: " + shown);
    }

    private static void constants(String page) throws ReflectiveOperationException {
        for (String name : new String[] {"BAD", "STATE", "FULL", "NONE"}) {
            int value = RankStairs.class.getField(name).getInt(null);
            hold(page.contains("| `" + name + "` " + value + " |"), name + " " + value);
        }
    }
}
