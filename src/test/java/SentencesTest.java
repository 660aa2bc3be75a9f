import java.io.IOException;
import java.lang.reflect.InvocationTargetException;
import java.lang.reflect.Method;
import java.nio.file.Files;
import java.nio.file.Path;
import java.util.Arrays;
import java.util.Comparator;
import java.util.List;

/** Runs every test that names a sentence of the document, and looks whether the sentence stands there. */
final class SentencesTest {
    private static final List<Class<?>> TESTS =
            List.of(HallSentences.class, TextSentences.class, AnswerSentences.class, ChangeSentences.class);

    public static void main(String[] args) throws IOException, ReflectiveOperationException {
        String[] sections = sections(Files.readString(Path.of("../shared/DOC.md")));
        Check all = new Check();
        all.due("promises of the document", sections.length - 1, 56);
        for (Class<?> tests : TESTS) {
            Method[] methods = tests.getDeclaredMethods();
            Arrays.sort(methods, Comparator.comparing(Method::getName));
            for (Method method : methods) {
                Sentence sentence = method.getAnnotation(Sentence.class);
                if (sentence != null) {
                    for (String said : sentence.says()) {
                        boolean stands = sections[sentence.promise()].contains(said);
                        all.holds("promise " + sentence.promise() + " has the sentence: " + said, stands);
                    }
                    all.add(run(method, sentence));
                } else {
                    all.fails(method + " is a test without a sentence", takesACheckAlone(method));
                }
            }
        }
        all.end();
    }

    /** The text ahead of promise 1, and then that of each promise, with single spaces between its words. */
    private static String[] sections(String document) {
        String[] sections = document.split("\n## Promise [0-9]+: ");
        for (int i = 0; i < sections.length; i++) {
            sections[i] = sections[i].split("\n## Not promised")[0].replaceAll("\\s+", " ");
        }
        return sections;
    }

    private static boolean takesACheckAlone(Method method) {
        return !method.isSynthetic() && Arrays.equals(method.getParameterTypes(), new Class<?>[] {Check.class});
    }

    private static Check run(Method method, Sentence sentence) throws ReflectiveOperationException {
        Check check = new Check();
        try {
            method.invoke(null, check);
        } catch (InvocationTargetException thrown) {
            check.holds("ends without " + thrown.getCause(), false);
        }
        if (check.isWrong()) {
            System.out.println("  so " + method.getName() + " fails, promise " + sentence.promise() + ": "
                    + String.join(" ", sentence.says()));
        }
        check.holds(method.getName() + " checks something", check.isUsed());
        return check;
    }
}
