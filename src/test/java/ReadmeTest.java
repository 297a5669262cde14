import java.io.IOException;
import java.lang.reflect.Modifier;
import java.net.URL;
import java.net.URLClassLoader;
import java.nio.file.Files;
import java.nio.file.Path;
import java.util.Arrays;
import java.util.List;
import java.util.Set;
import java.util.TreeSet;
import java.util.regex.MatchResult;
import java.util.regex.Pattern;
import java.util.stream.Collectors;
import java.util.stream.Stream;
import javax.tools.ToolProvider;

/** README.md: its example answers what it says, and it names every method of the face and every test. */
public final class ReadmeTest {
    private static final Check CHECK = new Check();
    private static final Pattern EXAMPLE = Pattern.compile("(?s)```java\n(.*?)```");
    private static final Pattern CALL_WITH_ANSWER = Pattern.compile("(?m)^(office\\..*\\)); +// (-?\\d+|true|false)\\b");

    public static void main(String[] args) {
        CHECK.runAll(ReadmeTest.class);
    }

    static void exampleAnswersWhatItSays() throws Exception {
        String example = example();
        List<MatchResult> calls = CALL_WITH_ANSWER.matcher(example).results().collect(Collectors.toList());
        Object[] answers = play(example);
        CHECK.due("the number of answers", calls.size(), () -> answers.length);
        for (int i = 0; i < answers.length; i++) {
            Object answer = answers[i];
            CHECK.due(calls.get(i).group(1), calls.get(i).group(2), () -> String.valueOf(answer));
        }
    }

    static void namesEveryMethod() throws IOException {
        String readme = readme();
        Set<String> unnamed = Arrays.stream(StudyAudit.class.getDeclaredMethods())
                .filter(m -> Modifier.isPublic(m.getModifiers()))
                .map(m -> "`" + m.getName() + "(")
                .filter(name -> !readme.contains(name))
                .collect(Collectors.toCollection(TreeSet::new));
        CHECK.due("methods that are not named", Set.of(), () -> unnamed);
    }

    static void namesEveryTest() throws IOException {
        String readme = readme();
        try (Stream<Path> files = Files.list(Path.of("src/test/java"))) {
            Set<String> unnamed = files.map(file -> "`" + file.getFileName().toString().replace(".java", "") + "`")
                    .filter(name -> !readme.contains(name))
                    .collect(Collectors.toCollection(TreeSet::new));
            CHECK.due("files that are not named", Set.of(), () -> unnamed);
        }
    }

    private static String readme() throws IOException {
        return Files.readString(Path.of("README.md"));
    }

    private static String example() throws IOException {
        return EXAMPLE.matcher(readme()).results().findFirst().orElseThrow().group(1);
    }

    /** Compiles and runs the example; the answers of the calls behind which it tells one. */
    private static Object[] play(String example) throws Exception {
        String body = CALL_WITH_ANSWER.matcher(example).replaceAll("answers.add($1); // $2");
        Path place = Files.createTempDirectory("readme");
        Path source = place.resolve("Example.java");
        Files.writeString(source, "public class Example {\npublic static Object[] play() {\n"
                + "java.util.List<Object> answers = new java.util.ArrayList<>();\n"
                + body + "return answers.toArray();\n}\n}\n");
        String classes = System.getProperty("java.class.path");
        int exit = ToolProvider.getSystemJavaCompiler()
                .run(null, null, null, "-cp", classes, "-d", place.toString(), source.toString());
        CHECK.due("the exit code of javac", 0, () -> exit);
        try (URLClassLoader loader = new URLClassLoader(new URL[] {place.toUri().toURL()})) {
            return (Object[]) loader.loadClass("Example").getMethod("play").invoke(null);
        } finally {
            Files.deleteIfExists(place.resolve("Example.class"));
            Files.delete(source);
            Files.delete(place);
        }
    }
}
