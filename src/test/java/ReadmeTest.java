import java.io.ByteArrayOutputStream;
import java.io.PrintStream;
import java.lang.reflect.Method;
import java.lang.reflect.Modifier;
import java.net.URL;
import java.net.URLClassLoader;
import java.nio.charset.StandardCharsets;
import java.nio.file.Files;
import java.nio.file.Path;
import java.util.ArrayList;
import java.util.List;
import java.util.regex.Matcher;
import java.util.regex.Pattern;
import javax.tools.JavaCompiler;
import javax.tools.ToolProvider;

/** The example of README.md prints what it says, and README.md names every method. Runs in the project's folder. */
final class ReadmeTest {
    private static final Path WORK = Path.of("build/readme");
    private static final String BEGIN = "```java\n";
    private static final String END = "\n```\n";
    private static final Pattern PRINTED = Pattern.compile("println\\(.*\\); // (.*)");

    public static void main(String[] args) throws Exception {
        String text = Files.readString(Path.of("README.md"));
        namesEveryMethod(text);
        exampleHolds(text);
        Check.end();
    }

    private static void namesEveryMethod(String text) {
        for (Method m : WorldDeltas.class.getDeclaredMethods()) {
            if (Modifier.isPublic(m.getModifiers())) {
                Check.due("README.md names " + m.getName(), text.contains("| `" + m.getName() + "("), true);
            }
        }
    }

    private static void exampleHolds(String text) throws Exception {
        int begin = text.indexOf(BEGIN);
        int end = text.indexOf(END, begin);
        Check.due("README.md has an example", begin >= 0 && end > begin, true);
        if (begin < 0 || end <= begin) {
            return;
        }
        String example = text.substring(begin + BEGIN.length(), end);
        List<String> want = answersTold(example);
        Check.due("each line that prints tells its answer", want.size(), example.split("println", -1).length - 1);
        List<String> got = answersOf(example);
        Check.due("printed lines", got.size(), want.size());
        for (int i = 0; i < Math.min(got.size(), want.size()); i++) {
            if (!got.get(i).equals(want.get(i))) {
                Check.fail("line " + i + " of the example printed " + got.get(i) + ", README.md says " + want.get(i));
            }
        }
    }

    private static List<String> answersTold(String example) {
        List<String> told = new ArrayList<>();
        Matcher printed = PRINTED.matcher(example);
        while (printed.find()) {
            told.add(printed.group(1));
        }
        return told;
    }

    private static List<String> answersOf(String example) throws Exception {
        Files.createDirectories(WORK);
        Path file = WORK.resolve("Example.java");
        Files.writeString(file, example);
        JavaCompiler compiler = ToolProvider.getSystemJavaCompiler();
        int refused = compiler.run(null, null, null, "-d", WORK.toString(), "src/main/java/WorldDeltas.java",
                file.toString());
        Check.due("the example compiles", refused, 0);
        return refused == 0 ? printedBy("Example") : new ArrayList<>();
    }

    private static List<String> printedBy(String name) throws Exception {
        PrintStream out = System.out;
        ByteArrayOutputStream printed = new ByteArrayOutputStream();
        URL[] path = {WORK.toUri().toURL()};
        try (URLClassLoader loader = new URLClassLoader(path, ClassLoader.getPlatformClassLoader())) {
            System.setOut(new PrintStream(printed, true, StandardCharsets.UTF_8));
            loader.loadClass(name).getMethod("main", String[].class).invoke(null, (Object) new String[0]);
        } finally {
            System.setOut(out);
        }
        return printed.toString(StandardCharsets.UTF_8).lines().toList();
    }
}
