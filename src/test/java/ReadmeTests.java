import java.io.ByteArrayOutputStream;
import java.io.IOException;
import java.io.PrintStream;
import java.lang.reflect.Method;
import java.lang.reflect.Modifier;
import java.net.URL;
import java.net.URLClassLoader;
import java.nio.file.Files;
import java.nio.file.Path;
import java.util.ArrayList;
import java.util.List;
import java.util.regex.Matcher;
import java.util.regex.Pattern;
import javax.tools.ToolProvider;

/** What README.md shows is so: its program prints what stands behind each //, and it names every call. */
final class ReadmeTests {
    private static final Pattern PROGRAM = Pattern.compile("```java\n(.*?)```", Pattern.DOTALL);
    private static final Pattern PRINTED = Pattern.compile("println\\(.*\\);\\s*// (.*)");

    private ReadmeTests() {
    }

    static void readme(String[] args) {
        Path path = Path.of(args.length > 2 ? args[2] : "README.md");
        try {
            String page = Files.readString(path);
            namesEveryCall(page);
            Matcher program = PROGRAM.matcher(page);
            Check.due("README.md has a program", program.find(), true);
            runsAsTold(program.group(1));
        } catch (IOException | ReflectiveOperationException e) {
            Check.fail("the program of README.md can't be run: " + e);
        }
    }

    private static void namesEveryCall(String page) {
        for (Method method : LongestTokens.class.getDeclaredMethods()) {
            if (Modifier.isPublic(method.getModifiers())) {
                boolean isNamed = Pattern.compile("`" + method.getName() + "(\\(.*?\\))?`").matcher(page).find();
                Check.due("README.md names " + method.getName(), isNamed, true);
            }
        }
    }

    private static void runsAsTold(String program) throws IOException, ReflectiveOperationException {
        List<String> due = new ArrayList<>();
        Matcher printed = PRINTED.matcher(program);
        while (printed.find()) {
            due.add(printed.group(1));
        }
        List<String> got = outputOf(program);
        Check.due("lines that the program of README.md prints", got.size(), due.size());
        for (int i = 0; i < Math.min(got.size(), due.size()); i++) {
            if (!got.get(i).equals(due.get(i))) {
                Check.fail("the program of README.md printed " + got.get(i) + ", told is " + due.get(i));
            }
        }
    }

    private static List<String> outputOf(String program) throws IOException, ReflectiveOperationException {
        Path folder = Files.createDirectories(Path.of("build", "readme"));
        Path source = folder.resolve("Example.java");
        Files.writeString(source, program);
        int exit = ToolProvider.getSystemJavaCompiler().run(null, null, null, "-d", folder.toString(),
            "-cp", System.getProperty("java.class.path"), source.toString());
        Check.due("javac of the program of README.md", exit, 0);
        ByteArrayOutputStream bytes = new ByteArrayOutputStream();
        PrintStream screen = System.out;
        try (URLClassLoader loader = new URLClassLoader(new URL[] {folder.toUri().toURL()});
                PrintStream caught = new PrintStream(bytes)) {
            Method main = loader.loadClass("Example").getMethod("main", String[].class);
            System.setOut(caught);
            main.invoke(null, (Object) new String[0]);
        } finally {
            System.setOut(screen);
        }
        return bytes.toString().lines().toList();
    }
}
