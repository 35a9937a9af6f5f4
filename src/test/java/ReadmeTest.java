import java.io.ByteArrayOutputStream;
import java.io.IOException;
import java.io.PrintStream;
import java.lang.reflect.Field;
import java.lang.reflect.Method;
import java.lang.reflect.Modifier;
import java.nio.file.DirectoryStream;
import java.nio.file.Files;
import java.nio.file.Path;

/** README.md shows the example as it is, with what it prints, and names every call and every test. */
public final class ReadmeTest {
    private static final Checks c = new Checks("ReadmeTest");

    public static void main(String[] args) throws IOException {
        String readme = Files.readString(Path.of("README.md"));
        String example = Files.readString(Path.of("src/test/java/Example.java"));
        holds("the example is shown", block(readme, "java").equals(example.substring(example.indexOf('\n') + 1)));
        holds("what it prints is shown", block(readme, "text").equals(printed()));
        holds("how all tests are run", block(readme, "sh").contains(".ci/run\n"));
        calls(readme);
        tests(readme);
        c.end();
    }

    private static void holds(String what, boolean holds) {
        c.due(what, holds ? 1 : 0, 1);
    }

    /** The first block of a kind, or nothing. */
    private static String block(String readme, String kind) {
        String fence = "```";
        int begin = readme.indexOf(fence + kind + "\n");
        int inside = begin + fence.length() + kind.length() + 1;
        int end = begin < 0 ? -1 : readme.indexOf(fence, inside);
        return end < 0 ? "" : readme.substring(inside, end);
    }

    private static String printed() {
        PrintStream before = System.out;
        ByteArrayOutputStream caught = new ByteArrayOutputStream();
        System.setOut(new PrintStream(caught, true));
        Example.main(new String[0]);
        System.setOut(before);
        return caught.toString().replace(System.lineSeparator(), "\n");
    }

    private static void calls(String readme) {
        for (Method method : TrailSearch.class.getDeclaredMethods()) {
            if (Modifier.isPublic(method.getModifiers())) {
                holds(method.getName() + " is told", readme.contains("| `" + method.getName() + "("));
            }
        }
        for (Field field : TrailSearch.class.getDeclaredFields()) {
            if (Modifier.isPublic(field.getModifiers())) {
                holds(field.getName() + " is told", readme.contains("`" + field.getName() + "`"));
            }
        }
    }

    private static void tests(String readme) throws IOException {
        try (DirectoryStream<Path> files = Files.newDirectoryStream(Path.of("src/test/java"), "*Test.java")) {
            for (Path file : files) {
                String name = file.getFileName().toString().replace(".java", "");
                holds(name + " is told", readme.contains("- `" + name));
            }
        }
    }
}
