import java.io.ByteArrayOutputStream;
import java.io.IOException;
import java.io.PrintStream;
import java.lang.reflect.Method;
import java.lang.reflect.Modifier;
import java.net.URL;
import java.net.URLClassLoader;
import java.nio.charset.StandardCharsets;
import java.nio.file.Files;
import java.nio.file.Path;
import javax.tools.JavaCompiler;
import javax.tools.ToolProvider;

/** README.md: its example runs as it stands, and each call of the face has a row that tells what it answers. */
final class ReadmeTest {
    public static void main(String[] args) throws IOException, ReflectiveOperationException {
        Path source = Path.of(args.length > 0 ? args[0] : "src/main/java/EvenTown.java");
        String readme = Files.readString(source.resolveSibling("../../../README.md").normalize());
        tellsEachCall(readme);
        tellsHowToRunTheTests(readme);
        runsItsExample(readme);
        Check.close();
    }

    private static void tellsEachCall(String readme) {
        Check.sentence("what each of the document's calls answers");
        int calls = 0;
        for (Method method : EvenTown.class.getDeclaredMethods()) {
            if (Modifier.isPublic(method.getModifiers())) {
                calls++;
                int from = readme.indexOf("\n| `" + method.getName() + "(");
                Check.due("a row for " + method.getName(), from >= 0, true);
                int end = readme.indexOf(")`", Math.max(from, 0));
                String told = from < 0 ? "" : readme.substring(from, end);
                int numbers = told.endsWith("(") ? 0 : told.split(",").length;
                Check.due("numbers in the row of " + method.getName(), numbers, method.getParameterCount());
            }
        }
        Check.due("calls", calls, 28);
        Check.due("a row for a new object", readme.contains("\n| `EvenTown()` | "), true);
    }

    private static void tellsHowToRunTheTests(String readme) {
        Check.sentence("how to run its tests");
        Check.due("the command", readme.contains("\n.ci/run\n"), true);
        Check.due("the tests beside the project's", readme.contains("../shared/tests"), true);
    }

    private static void runsItsExample(String readme) throws IOException, ReflectiveOperationException {
        Check.sentence("an example that runs as it stands");
        String java = block(readme, "java", readme.indexOf("### An example"));
        String printed = block(readme, "text", readme.indexOf("It prints"));
        Path room = Files.createTempDirectory("example");
        Path file = Files.writeString(room.resolve("Example.java"), java);
        JavaCompiler compiler = ToolProvider.getSystemJavaCompiler();
        Check.due("a compiler is there", compiler != null, true);
        if (compiler != null) {
            String classes = System.getProperty("java.class.path");
            int ended = compiler.run(null, null, null, "-cp", classes, "-d", room.toString(), file.toString());
            Check.due("the example compiles", ended, 0);
            String answered = ended == 0 ? printedBy(room) : "";
            Check.due("it prints what stands behind it, not\n" + answered, answered.equals(printed), true);
        }
        for (String name : new String[] {"Example.java", "Example.class", ""}) {
            Files.deleteIfExists(room.resolve(name));
        }
    }

    private static String block(String readme, String kind, int behind) {
        String opens = "```" + kind + "\n";
        int from = behind < 0 ? -1 : readme.indexOf(opens, behind);
        int end = from < 0 ? -1 : readme.indexOf("```\n", from + opens.length());
        Check.due("a block of " + kind, end >= 0, true);
        return end < 0 ? "" : readme.substring(from + opens.length(), end);
    }

    private static String printedBy(Path room) throws IOException, ReflectiveOperationException {
        PrintStream before = System.out;
        ByteArrayOutputStream printed = new ByteArrayOutputStream();
        try (URLClassLoader loader = new URLClassLoader(new URL[] {room.toUri().toURL()})) {
            System.setOut(new PrintStream(printed, true, StandardCharsets.UTF_8));
            loader.loadClass("Example").getMethod("main", String[].class).invoke(null, (Object) new String[0]);
        } finally {
            System.setOut(before);
        }
        return printed.toString(StandardCharsets.UTF_8).replace(System.lineSeparator(), "\n");
    }

    private ReadmeTest() {
    }
}
