import java.io.ByteArrayOutputStream;
import java.io.IOException;
import java.io.PrintStream;
import java.net.URL;
import java.net.URLClassLoader;
import java.nio.file.Files;
import java.nio.file.Path;
import java.util.ArrayList;
import java.util.Comparator;
import java.util.List;
import java.util.TreeSet;
import java.util.regex.Matcher;
import java.util.regex.Pattern;
import java.util.stream.Stream;
import javax.tools.ToolProvider;

/** README.md, from the folder of the project: its example answers what it says, and all tests are named. */
public final class ReadmeTest {
    private static final Pattern EXAMPLE = Pattern.compile("(?ms)^```java\\n(.*?)^```$");
    private static final Pattern PRINTS = Pattern.compile("System\\.out\\.println\\(.*\\);");
    private static final Pattern ANSWER = Pattern.compile("System\\.out\\.println\\(.*\\); +// (.*)");
    private static final Pattern NAMED_TEST = Pattern.compile("`(\\w+Test)`");
    private static final Pattern FILE = Pattern.compile("`((?:src/|\\.ci/|NOTES)[\\w./]*)`");

    public static void main(String[] args) throws IOException, ReflectiveOperationException {
        String readme = Files.readString(Path.of("README.md"));
        Matcher example = EXAMPLE.matcher(readme);
        Check.holds("there is an example", example.find());
        Check.same("the example's answers", answersTold(example.group(1)), answersOf(example.group(1)));
        Check.holds("there is one example alone", !example.find());
        namesTests(readme);
        for (Matcher file = FILE.matcher(readme); file.find();) {
            Check.holds("there is " + file.group(1), Files.exists(Path.of(file.group(1))));
        }
        Check.end();
    }

    /** What stands behind the lines that print. */
    private static List<String> answersTold(String example) {
        List<String> told = new ArrayList<>();
        for (Matcher answer = ANSWER.matcher(example); answer.find();) {
            told.add(answer.group(1).strip());
        }
        Check.due("lines that print have an answer", PRINTS.matcher(example).results().count(), told.size());
        Check.holds("answers are told", !told.isEmpty());
        return told;
    }

    private static List<String> answersOf(String example) throws IOException, ReflectiveOperationException {
        Path folder = Files.createTempDirectory("readme");
        try {
            Path file = folder.resolve("Example.java");
            Files.writeString(file, example);
            int failed = ToolProvider.getSystemJavaCompiler().run(null, null, null, "-proc:none", "-d",
                folder.toString(), "-cp", System.getProperty("java.class.path"), file.toString());
            Check.due("the example compiles", 0, failed);
            return failed == 0 ? linesPrinted(folder) : List.of();
        } finally {
            remove(folder);
        }
    }

    private static List<String> linesPrinted(Path folder) throws IOException, ReflectiveOperationException {
        ByteArrayOutputStream bytes = new ByteArrayOutputStream();
        PrintStream before = System.out;
        try (URLClassLoader loader = new URLClassLoader(new URL[] {folder.toUri().toURL()})) {
            System.setOut(new PrintStream(bytes, true));
            loader.loadClass("Example").getMethod("main", String[].class).invoke(null, (Object) new String[0]);
        } finally {
            System.setOut(before);
        }
        return bytes.toString().lines().toList();
    }

    private static void remove(Path folder) throws IOException {
        try (Stream<Path> files = Files.walk(folder)) {
            for (Path file : files.sorted(Comparator.reverseOrder()).toList()) {
                Files.delete(file);
            }
        }
    }

    private static void namesTests(String readme) throws IOException {
        TreeSet<String> named = new TreeSet<>();
        for (Matcher test = NAMED_TEST.matcher(readme); test.find();) {
            named.add(test.group(1));
        }
        TreeSet<String> there = new TreeSet<>();
        try (Stream<Path> files = Files.list(Path.of("src/test/java"))) {
            files.map(file -> file.getFileName().toString()).filter(name -> name.endsWith("Test.java"))
                .forEach(name -> there.add(name.replace(".java", "")));
        }
        Check.same("tests that are named", there, named);
    }
}
