import java.io.IOException;
import java.nio.file.Files;
import java.nio.file.Path;
import java.util.regex.Matcher;
import java.util.regex.Pattern;

/** The rules of ../shared/LANGUAGE.md that can be seen in the text of the class. Runs in the project's folder. */
final class LanguageTest {
    private static final String[] FORBIDDEN = {
        "\\bimport\\b", "\\bpackage\\b", "\\btry\\b", "\\bcatch\\b", "\\bfinally\\b", "\\bsynchronized\\b",
        "\\bassert\\b", "\\bnative\\b", "\\bvolatile\\b", "->", "::", "@", "\\bMath\\.\\w+Exact\\b", "\\bSystem\\.(?!arraycopy)",
        "\\bjava\\.", "\\bstatic\\s*\\{", "\\b(public|protected) (static )?(final )?class (?!WorldDeltas)",
        "\"[^\"]*\"\\s*\\+", "\\+\\s*\"", "\\bvar\\b", "\\bdouble\\b", "\\bfloat\\b"};

    public static void main(String[] args) throws IOException {
        String code = withoutComments(Files.readString(Path.of("src/main/java/WorldDeltas.java")));
        for (String pattern : FORBIDDEN) {
            Matcher found = Pattern.compile(pattern).matcher(code);
            Check.due("places of " + pattern, found.results().count(), 0);
        }
        Matcher thrown = Pattern.compile("throw (?!new (IllegalStateException|IllegalArgumentException"
                + "|IndexOutOfBoundsException)\\(\"[^\"]*\"\\);)").matcher(code);
        Check.due("other throws", thrown.results().count(), 0);
        Check.due("signs of 1 to 127 alone", code.chars().allMatch(c -> c >= 1 && c <= 127), true);
        Check.end();
    }

    private static String withoutComments(String text) {
        return text.replaceAll("(?s)/\\*.*?\\*/", "").replaceAll("//[^\n]*", "");
    }
}
