import java.io.ByteArrayOutputStream;
import java.io.IOException;
import java.io.PrintStream;
import java.lang.reflect.Field;
import java.lang.reflect.Method;
import java.lang.reflect.Modifier;
import java.nio.charset.StandardCharsets;
import java.nio.file.Files;
import java.nio.file.Path;

/** What README.md says of the use of the class: its example is the one that is compiled here, and no call is left out. */
final class ReadmeTest {
    private static final Check check = new Check();

    public static void main(String[] args) throws IOException {
        String readme = Files.readString(Path.of("README.md"));
        String example = Files.readString(Path.of("src/test/java/Example.java"));
        check.holds("README.md shows Example.java", block(readme, "java").equals(example));
        check.holds("README.md shows what Example prints", block(readme, "text").equals(printed()));
        names(readme);
        check.end();
    }

    /** What stands between the lines ```kind and ```; nothing, if there is no such block. */
    private static String block(String readme, String kind) {
        String first = "\n```" + kind + "\n";
        int from = readme.indexOf(first) + first.length();
        int to = readme.indexOf("```\n", from);
        return from >= first.length() && to >= 0 ? readme.substring(from, to) : "";
    }

    private static String printed() {
        PrintStream usual = System.out;
        ByteArrayOutputStream caught = new ByteArrayOutputStream();
        System.setOut(new PrintStream(caught, true, StandardCharsets.UTF_8));
        try {
            Example.main(new String[0]);
        } finally {
            System.setOut(usual);
        }
        return caught.toString(StandardCharsets.UTF_8).replace(System.lineSeparator(), "\n");
    }

    private static void names(String readme) {
        for (Method method : CountHall.class.getDeclaredMethods()) {
            named(readme, method.getName(), method.getModifiers());
        }
        for (Field field : CountHall.class.getDeclaredFields()) {
            named(readme, field.getName(), field.getModifiers());
        }
    }

    private static void named(String readme, String name, int modifiers) {
        if (Modifier.isPublic(modifiers)) {
            check.holds("README.md names `" + name + "`", readme.contains("`" + name + "`"));
        }
    }
}
