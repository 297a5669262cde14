import java.io.IOException;
import java.nio.file.Files;
import java.nio.file.Path;
import java.util.Set;
import java.util.TreeSet;
import java.util.regex.Pattern;
import java.util.stream.Collectors;

/** Rules of LANGUAGE.md that the text of the class shows: what it uses of the library, and words it does without. */
public final class LanguageTest {
    private static final Check CHECK = new Check();
    private static final Pattern COMMENT_OR_TEXT = Pattern.compile("(?s)/\\*.*?\\*/|//[^\n]*|\"[^\"\n]*\"");
    private static final Pattern IMPORT = Pattern.compile("(?m)^import (.*);$");
    private static final Pattern OF_LIBRARY = Pattern.compile("\\b(?:Integer|Long|Math|Arrays|System|List)\\.\\w+");
    private static final Pattern RULED_OUT = Pattern.compile("->|::|\\b(?:finally|synchronized|assert|package|var)\\b");

    public static void main(String[] args) {
        CHECK.runAll(LanguageTest.class);
    }

    static void usesOfTheLibraryOnlyWhatIsListed() throws IOException {
        Set<String> imports = found(IMPORT, 1);
        CHECK.due("imports", Set.of("java.util.Arrays", "java.util.NoSuchElementException"), () -> imports);
        Set<String> used = found(OF_LIBRARY, 0);
        CHECK.due("what is used", Set.of("Arrays.fill", "Integer.bitCount", "Math.max", "Math.min"), () -> used);
    }

    static void doesWithoutWhatIsRuledOut() throws IOException {
        Set<String> used = found(RULED_OUT, 0);
        CHECK.due("what is ruled out", Set.of(), () -> used);
    }

    private static Set<String> found(Pattern pattern, int group) throws IOException {
        String program = Files.readString(Path.of("src/main/java/StudyAudit.java"));
        String code = COMMENT_OR_TEXT.matcher(program).replaceAll("");
        return pattern.matcher(code).results().map(m -> m.group(group)).collect(Collectors.toCollection(TreeSet::new));
    }
}
