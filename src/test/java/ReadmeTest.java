import java.io.IOException;
import java.lang.reflect.Method;
import java.nio.file.DirectoryStream;
import java.nio.file.Files;
import java.nio.file.Path;
import java.util.regex.Matcher;
import java.util.regex.Pattern;

/** README.md says how to use the class: its lines answer as they say, and it names each call and each test. */
public final class ReadmeTest {
    private static final Pattern LINE = Pattern.compile("(?m)^paper\\.(\\w+\\(.*?\\)); +// (-?\\d+)\\b");
    private static final Pattern ANY_CALL = Pattern.compile("(?m)^paper\\.");

    private static int wrong = 0;

    public static void main(String[] args) throws IOException {
        String page = Files.readString(Path.of("README.md"));
        runLines(page);
        nameCalls(page);
        nameTests(page);
        System.out.println(wrong == 0 ? "the page is as due" : wrong + " faults of the page");
        if (wrong != 0) {
            System.exit(1);
        }
    }

    private static void demand(boolean holds, String what) {
        if (!holds) {
            wrong++;
            System.out.println("README.md: " + what);
        }
    }

    private static void runLines(String page) {
        PaperRepeats paper = new PaperRepeats();
        Matcher line = LINE.matcher(page);
        int lines = 0;
        while (line.find()) {
            long got = Sentences.ask(paper, line.group(1));
            demand(got == Long.parseLong(line.group(2)), line.group() + ": the class answers " + got);
            lines++;
        }
        demand(lines > 0 && lines == ANY_CALL.matcher(page).results().count(), "each line says what it answers");
    }

    private static void nameCalls(String page) {
        for (Method method : PaperRepeats.class.getDeclaredMethods()) {
            if ((method.getModifiers() & java.lang.reflect.Modifier.PUBLIC) == 0) {
                continue;
            }
            Matcher row = Pattern.compile("(?m)^\\| `" + method.getName() + "\\((.*?)\\)` \\|").matcher(page);
            boolean isNamed = row.find();
            demand(isNamed, "names no " + method.getName());
            int named = !isNamed || row.group(1).isEmpty() ? 0 : row.group(1).split(", ").length;
            demand(named == method.getParameterCount(), method.getName() + " with " + named + " parameters");
        }
    }

    private static void nameTests(String page) throws IOException {
        try (DirectoryStream<Path> files = Files.newDirectoryStream(Path.of("src/test/java"), "*Test.java")) {
            for (Path file : files) {
                String name = file.getFileName().toString().replace(".java", "");
                demand(page.contains("`" + name + "`"), "names no " + name);
            }
        }
        demand(page.contains("\n.ci/run\n"), "says how the tests are run");
    }
}
