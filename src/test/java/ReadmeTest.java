import java.io.File;
import java.io.IOException;
import java.lang.reflect.Method;
import java.net.URL;
import java.net.URLClassLoader;
import java.nio.file.Files;
import java.nio.file.Path;
import java.util.ArrayList;
import java.util.Arrays;
import java.util.List;
import java.util.Set;
import java.util.TreeSet;
import java.util.regex.Matcher;
import java.util.regex.Pattern;
import javax.tools.ToolProvider;

/** What README.md shows is so: its lines of Java compile and answer what stands beside them; it names each call and each test. */
public final class ReadmeTest {
    private static final Path TESTS = Path.of("src/test/java");
    private static final Pattern ANSWERED = Pattern.compile("(saints\\.\\w+\\(.*\\)); +// (-?\\d+)(: .*)?");
    private static final Pattern TEST_NAME = Pattern.compile("`(\\w+Test)`");

    private static int wrong = 0;
    private static int shown = 0;

    private ReadmeTest() { }

    public static void main(String[] args) throws IOException, ReflectiveOperationException {
        String readme = Files.readString(Path.of("README.md"));
        runWhatIsShown(readme);
        for (String call : Face.calls()) {
            dueIn(readme, "`" + call + "`");
        }
        dueIn(readme, "bash .ci/run");
        nameEachTest(readme);
        System.out.println(wrong == 0 ? "README.md holds, " + shown + " answers are as shown" : wrong + " things in README.md do not hold");
        if (wrong != 0) {
            System.exit(1);
        }
    }

    private static void find(String what) {
        wrong++;
        System.out.println("README.md: " + what);
    }

    private static void dueIn(String readme, String words) {
        if (!readme.contains(words)) {
            find(words + " does not stand there");
        }
    }

    private static void nameEachTest(String readme) {
        Set<String> named = new TreeSet<>();
        Matcher names = TEST_NAME.matcher(readme);
        while (names.find()) {
            named.add(names.group(1));
        }
        Set<String> there = new TreeSet<>();
        for (String file : TESTS.toFile().list()) {
            if (file.endsWith("Test.java")) {
                there.add(file.replace(".java", ""));
            }
        }
        if (!named.equals(there)) {
            find("it names the tests " + named + ", there are " + there);
        }
    }

    /** Called by the lines that are shown, once they are compiled. */
    public static void due(String call, long got, long want) {
        shown++;
        if (got != want) {
            find(call + " answered " + got + ", " + want + " is shown");
        }
    }

    private static void runWhatIsShown(String readme) throws IOException, ReflectiveOperationException {
        int from = readme.indexOf("```java\n");
        int to = readme.indexOf("\n```\n", from);
        if (from < 0 || to < 0) {
            find("no Java is shown");
            return;
        }
        Path folder = Files.createTempDirectory("readme");
        Path source = folder.resolve("Shown.java");
        Files.writeString(source, asClass(readme.substring(from + 8, to).split("\n")));
        String path = System.getProperty("java.class.path");
        if (ToolProvider.getSystemJavaCompiler().run(null, null, null, "-cp", path, "-d", folder.toString(), source.toString()) != 0) {
            find("what is shown does not compile");
            return;
        }
        try (URLClassLoader loader = new URLClassLoader(new URL[] {folder.toUri().toURL()})) {
            Method run = loader.loadClass("Shown").getMethod("run");
            run.invoke(null);
        }
        remove(folder.toFile());
    }

    private static void remove(File folder) {
        for (File file : folder.listFiles()) {
            file.delete();
        }
        folder.delete();
    }

    private static String asClass(String[] lines) {
        List<String> code = new ArrayList<>(Arrays.asList("public final class Shown {", "public static void run() {"));
        for (String line : lines) {
            Matcher answered = ANSWERED.matcher(line);
            if (answered.matches()) {
                String call = answered.group(1);
                code.add("ReadmeTest.due(\"" + call + "\", " + call + ", " + answered.group(2) + "L);");
            } else {
                code.add(line);
                if (line.startsWith("saints.")) {
                    find("no answer is shown of " + line);
                }
            }
        }
        code.add("} }");
        return String.join("\n", code);
    }
}
