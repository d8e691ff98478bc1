import java.io.IOException;
import java.lang.reflect.Method;
import java.lang.reflect.Modifier;
import java.nio.file.Files;
import java.nio.file.Path;
import java.util.List;
import java.util.Set;
import java.util.TreeSet;
import java.util.regex.Matcher;
import java.util.regex.Pattern;
import java.util.stream.Collectors;
import java.util.stream.Stream;

/** That README.md holds: the answers of its example, and that it leaves out no call, class or test. */
public final class ReadmeTest {
    private static final Pattern CALL = Pattern.compile("town\\.(\\w+\\(.*\\)); +// (-?\\d+)\\b.*");
    private static final Check check = new Check("ReadmeTest");

    public static void main(String[] args) throws IOException {
        String text = Files.readString(Path.of("README.md"));
        Set<String> asked = answersOf(text);
        namesEveryCall(asked);
        listsClasses(text);
        listsTests(text);
        check.end();
    }

    /** Makes each call of the example on one object: the names of all that were called. */
    private static Set<String> answersOf(String text) {
        Set<String> asked = new TreeSet<>();
        NotLikeThem town = new NotLikeThem();
        for (String line : text.split("\n")) {
            if (!line.startsWith("town.")) continue;
            Matcher call = CALL.matcher(line);
            boolean isCall = call.matches();
            check.isTrue("a call and its answer: " + line, isCall);
            if (!isCall) continue;
            check.due(call.group(1), Calls.answer(town, call.group(1)), Long.parseLong(call.group(2)));
            asked.add(call.group(1).substring(0, call.group(1).indexOf('(')));
        }
        return asked;
    }

    private static void namesEveryCall(Set<String> asked) {
        for (Method method : NotLikeThem.class.getDeclaredMethods()) {
            if (!Modifier.isPublic(method.getModifiers())) continue;
            check.isTrue("the example calls " + method.getName(), asked.contains(method.getName()));
        }
    }

    private static void listsClasses(String text) {
        for (Class<?> inside : NotLikeThem.class.getDeclaredClasses()) {
            check.isTrue(inside.getSimpleName() + " is listed", text.contains("| `" + inside.getSimpleName() + "` |"));
        }
    }

    private static void listsTests(String text) throws IOException {
        for (String name : testNames()) check.isTrue(name + " is listed", text.contains("| `" + name + "` |"));
    }

    private static List<String> testNames() throws IOException {
        try (Stream<Path> files = Files.list(Path.of("src/test/java"))) {
            return files.map(file -> file.getFileName().toString())
                    .filter(name -> name.endsWith("Test.java"))
                    .map(name -> name.substring(0, name.length() - ".java".length()))
                    .collect(Collectors.toList());
        }
    }
}
