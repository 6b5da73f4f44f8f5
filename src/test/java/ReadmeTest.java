import java.io.IOException;
import java.lang.reflect.Method;
import java.lang.reflect.Modifier;
import java.nio.file.Files;
import java.nio.file.Path;
import java.util.Arrays;
import java.util.regex.Matcher;
import java.util.regex.Pattern;

/** README.md tells no wrong answer and leaves no call out. */
public final class ReadmeTest {
    private static final Pattern CALL = Pattern.compile("scorer\\.(\\w+)\\(([^)]*)\\);\\s*// (-?\\w+): .*");
    private static final Due DUE = new Due();

    public static void main(String[] args) throws IOException {
        String readme = Files.readString(Path.of("README.md"));
        DUE.sentence("README: the example's answers", () -> example(readme));
        DUE.sentence("README: every call stands in the table", () -> table(readme));
        DUE.end();
    }

    private static void example(String readme) {
        TreeScorer scorer = new TreeScorer();
        for (String line : readme.split("\n")) {
            Matcher call = CALL.matcher(line);
            if (line.startsWith("scorer.")) {
                DUE.is("can be read: " + line, call.matches(), true);
                DUE.is(line + " is right", answer(scorer, call.group(1), call.group(2)).equals(call.group(3)), true);
            }
        }
    }

    private static String answer(TreeScorer scorer, String name, String arguments) {
        Object[] numbers = Arrays.stream(arguments.split(",")).map(ReadmeTest::product).toArray();
        try {
            for (Method method : TreeScorer.class.getDeclaredMethods()) {
                if (method.getName().equals(name)) {
                    return String.valueOf(method.invoke(scorer, numbers));
                }
            }
        } catch (ReflectiveOperationException thrown) {
            return thrown.toString();
        }
        return "there is no " + name;
    }

    private static Integer product(String text) {
        int product = 1;
        for (String factor : text.split("\\*")) {
            product *= Integer.parseInt(factor.trim());
        }
        return product;
    }

    private static void table(String readme) {
        for (Method method : TreeScorer.class.getDeclaredMethods()) {
            if (Modifier.isPublic(method.getModifiers())) {
                DUE.is("| `" + method.getName(), readme.contains("\n| `" + method.getName() + "("), true);
            }
        }
    }
}
