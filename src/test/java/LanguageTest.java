import java.io.IOException;
import java.nio.file.Files;
import java.nio.file.Path;
import java.util.List;
import java.util.regex.Matcher;
import java.util.regex.Pattern;

/** The rules of LANGUAGE.md that can be seen in the text of the class, from the folder of the project. */
public final class LanguageTest {
    private static final String[] RULED_OUT = {"->", "::", "\\btry\\b", "\\bcatch\\b", "\\bfinally\\b",
        "\\bsynchronized\\b", "\\bassert\\b", "\\bdouble\\b", "\\bfloat\\b", "Exact\\b", "\\bSystem\\.(?!arraycopy)",
        "\\bMath\\.(?!(min|max|floorMod)\\()", "\\bArrays\\.(?!fill\\()", "Thread", "Random", "\\bprotected\\b",
        "\\bpackage\\b", "\" *\\+", "\\+ *\"", "\\.values\\(\\)", "\\bwhile *\\(true\\)", "for *\\(;",
        "\\bstatic (?!final|int|long|boolean|void|abstract)"};
    private static final List<String> IMPORTS =
        List.of("import java.util.Arrays;", "import java.util.NoSuchElementException;");

    public static void main(String[] args) throws IOException {
        List<String> lines = Files.readAllLines(Path.of("src/main/java/KernelGym.java"));
        StringBuilder code = new StringBuilder();
        for (String line : lines) {
            String bare = line.strip();
            boolean comment = bare.startsWith("*") || bare.startsWith("/*") || bare.startsWith("//");
            Check.holds("signs of the line " + line, line.chars().allMatch(c -> c >= 32 && c < 127));
            Check.holds("width of the line " + line, line.length() <= 120);
            if (bare.startsWith("import")) {
                Check.holds(bare, IMPORTS.contains(bare));
            }
            code.append(comment ? "" : line).append('\n');
        }
        for (String pattern : RULED_OUT) {
            Matcher matcher = Pattern.compile(pattern).matcher(code);
            Check.same("what stands for " + pattern, "", matcher.find() ? matcher.group() : "");
        }
        checkMethods(code.toString());
        Matcher types = Pattern.compile("\\b(class|enum|record|interface) [A-Z]").matcher(code);
        Check.holds("some twelve classes", types.results().count() <= 12);
        Check.end();
    }

    /** Methods start behind four or eight blanks and end with a brace at the same place. */
    private static void checkMethods(String code) {
        Matcher matcher = Pattern.compile("(?ms)^( {4}| {8})(?! )([^\\n;={}]*)\\(([^)]*)\\)[^;{}]*\\{\\n(.*?)^\\1\\}")
            .matcher(code);
        int methods = 0;
        while (matcher.find()) {
            methods++;
            String name = matcher.group(2);
            Check.holds("short: " + name, matcher.group(4).lines().count() <= 60);
            Check.holds("parameters: " + name, matcher.group(3).split(",").length <= 7);
        }
        Check.holds("methods are found", methods > 150);
    }
}
