import java.io.IOException;
import java.io.OutputStream;
import java.io.PrintStream;
import java.io.StringWriter;
import java.lang.reflect.Method;
import java.net.URL;
import java.net.URLClassLoader;
import java.nio.file.Files;
import java.nio.file.Path;
import java.util.ArrayList;
import java.util.List;
import java.util.concurrent.ExecutorService;
import java.util.concurrent.Executors;
import java.util.concurrent.Future;
import java.util.regex.Matcher;
import java.util.regex.Pattern;
import javax.tools.JavaCompiler;
import javax.tools.ToolProvider;

/**
 * A tool that is run by hand, not by .ci/run, since it takes some minutes: it changes one sign, number or statement of
 * the class at a time, and tells the changes that none of the given test classes sees. Runs in the project's folder.
 */
final class Breaks {
    private static final Path SOURCE = Path.of("src/main/java/WorldDeltas.java");
    private static final Path WORK = Path.of("build/breaks");
    private static final int LONGEST_MILLIS = 60_000;
    private static final String[][] SIGNS = {
        {" < ", " <= "}, {" <= ", " < "}, {" > ", " >= "}, {" >= ", " > "}, {" == ", " != "}, {" != ", " == "},
        {" && ", " || "}, {" || ", " && "}, {" + ", " - "}, {" - ", " + "}, {" * ", " + "}, {" += ", " = "},
        {"vx", "vy"}, {"vy", "vx"}, {"delay", "interval"}, {"interval", "delay"}, {"centerX", "centerY"},
        {"packetsToLose", "acksToLose"}, {"acksToLose", "packetsToLose"}, {"Math.max", "Math.min"}};
    private static final Pattern NUMBER = Pattern.compile("(?<![\\w.])\\d+(?![\\w.])");
    private static final Pattern STATEMENT =
            Pattern.compile("\\s+[a-zA-Z][\\w.]*(\\[[^;]*\\])?(\\.\\w+)?( [-+]?= |\\+\\+|--|\\().*;");
    private static final Pattern KEPT =
            Pattern.compile("\\s+(return|throw|final|private|static|int|long|boolean|break)\\b.*");

    private final String[] lines;
    private final List<String> changed = new ArrayList<>();
    private final List<String> told = new ArrayList<>();

    private Breaks(String[] lines) {
        this.lines = lines;
    }

    public static void main(String[] tests) throws Exception {
        PrintStream out = System.out;
        Breaks breaks = new Breaks(Files.readString(SOURCE).split("\n", -1));
        breaks.changeAll();
        System.setOut(new PrintStream(OutputStream.nullOutputStream()));
        if (isSeen(-1, Files.readString(SOURCE), tests)) {
            out.println("a test fails without any change");
            System.exit(1);
        }
        ExecutorService workers = Executors.newFixedThreadPool(Runtime.getRuntime().availableProcessors());
        List<Future<Boolean>> seen = new ArrayList<>();
        for (int i = 0; i < breaks.changed.size(); i++) {
            int at = i;
            seen.add(workers.submit(() -> isSeen(at, breaks.changed.get(at), tests)));
        }
        int unseen = 0;
        for (int i = 0; i < seen.size(); i++) {
            if (!seen.get(i).get()) {
                unseen++;
                out.println(breaks.told.get(i));
            }
        }
        out.println(seen.size() + " changes, " + unseen + " are not seen");
        System.exit(0);
    }

    private void changeAll() {
        boolean inComment = false;
        for (int i = 0; i < lines.length; i++) {
            String line = lines[i].strip();
            inComment |= line.startsWith("/**");
            if (!inComment && !line.startsWith("//")) {
                changeLine(i);
            }
            inComment &= !line.endsWith("*/");
        }
    }

    private void changeLine(int i) {
        String line = lines[i];
        for (String[] sign : SIGNS) {
            for (int at = line.indexOf(sign[0]); at >= 0; at = line.indexOf(sign[0], at + 1)) {
                change(i, line.substring(0, at) + sign[1] + line.substring(at + sign[0].length()));
            }
        }
        Matcher number = NUMBER.matcher(line);
        while (number.find()) {
            int value = Integer.parseInt(number.group());
            change(i, line.substring(0, number.start()) + (value + 1) + line.substring(number.end()));
            change(i, line.substring(0, number.start()) + "(" + (value - 1) + ")" + line.substring(number.end()));
        }
        if (STATEMENT.matcher(line).matches() && !KEPT.matcher(line).matches()) {
            change(i, "");
        }
        if (line.strip().startsWith("if (")) {
            change(i, line.replace("if (", "if (true || "));
            change(i, line.replaceFirst("if \\((.*)\\) \\{", "if (false && ($1)) {"));
        }
    }

    private void change(int i, String line) {
        String[] all = lines.clone();
        all[i] = line;
        changed.add(String.join("\n", all));
        told.add(SOURCE.getFileName() + ":" + (i + 1) + ": " + lines[i].strip() + "  =>  " + line.strip());
    }

    /** Whether a test fails with the changed class. What does not compile or does not end counts as seen. */
    private static boolean isSeen(int number, String code, String[] tests) throws Exception {
        Path folder = WORK.resolve(Integer.toString(number));
        if (!compiles(folder, code)) {
            return true;
        }
        boolean[] passed = {false};
        Thread thread = new Thread(() -> passed[0] = allPass(folder, tests));
        thread.setDaemon(true);
        thread.start();
        thread.join(LONGEST_MILLIS);
        return thread.isAlive() || !passed[0];
    }

    private static boolean compiles(Path folder, String code) throws IOException {
        Files.createDirectories(folder);
        Path file = folder.resolve("WorldDeltas.java");
        Files.writeString(file, code);
        JavaCompiler compiler = ToolProvider.getSystemJavaCompiler();
        return compiler.getTask(new StringWriter(), null, problem -> { }, List.of("-d", folder.toString()), null,
                compiler.getStandardFileManager(null, null, null).getJavaFileObjects(file)).call();
    }

    /** Loads the tests and the changed class apart from all others, and runs the tests until one fails. */
    private static boolean allPass(Path folder, String[] tests) {
        try {
            URL own = Breaks.class.getProtectionDomain().getCodeSource().getLocation();
            URL[] path = {folder.toUri().toURL(), own};
            try (URLClassLoader loader = new URLClassLoader(path, ClassLoader.getPlatformClassLoader())) {
                Class<?> check = loader.loadClass("Check");
                Method isTest = check.getDeclaredMethod("isTest", Method.class);
                Method run = check.getDeclaredMethod("run", Method.class);
                isTest.setAccessible(true);
                run.setAccessible(true);
                for (String test : tests) {
                    for (Method method : loader.loadClass(test).getDeclaredMethods()) {
                        if ((Boolean) isTest.invoke(null, method) && !(Boolean) run.invoke(null, method)) {
                            return false;
                        }
                    }
                }
            }
            return true;
        } catch (ReflectiveOperationException | IOException problem) {
            throw new IllegalStateException(problem);
        }
    }
}
