import java.io.IOException;
import java.lang.reflect.Method;
import java.lang.reflect.Modifier;
import java.nio.file.Files;
import java.nio.file.Path;
import java.util.List;
import java.util.regex.Matcher;
import java.util.regex.Pattern;

/** README.md: its example answers as it says, and no method of the face is left out. */
final class ReadmeTest {
    private static final Pattern CALL = Pattern.compile("chip\\.(\\w+)\\((.*)\\); +// (\\S+?)(?:,? .*)?");
    private static final String CREATION = "Powerwell chip = new Powerwell();";

    private ReadmeTest() {
    }

    static List<Outcome> all() throws IOException {
        String page = Files.readString(Path.of("README.md"));
        return List.of(exampleAnswersAsItSays(page), everyMethodIsNamed(page));
    }

    private static Outcome exampleAnswersAsItSays(String page) {
        Outcome outcome = new Outcome("the example in README.md answers as it says there");
        String[] lines = between(page, "```java\n", "```").split("\n");
        outcome.same("its first line", lines[0], CREATION);
        Powerwell chip = new Powerwell();
        for (int i = 1; i < lines.length; i++) {
            Matcher call = CALL.matcher(lines[i]);
            if (call.matches()) {
                String got = Face.answer(chip, call.group(1), Runs.arguments(call.group(2)));
                outcome.same(lines[i], got, call.group(3));
            } else if (!lines[i].isBlank()) {
                outcome.fault("can't be read: " + lines[i]);
            }
        }
        return outcome;
    }

    private static Outcome everyMethodIsNamed(String page) {
        Outcome outcome = new Outcome("README.md names every method");
        String table = between(page, "What to call for what:", "A call that can't be taken");
        for (Method method : Powerwell.class.getDeclaredMethods()) {
            if (Modifier.isPublic(method.getModifiers())) {
                outcome.same("that it names " + method.getName(), table.contains("`" + method.getName() + "("), true);
            }
        }
        return outcome;
    }

    private static String between(String page, String first, String last) {
        int from = page.indexOf(first);
        int to = page.indexOf(last, from + first.length());
        return from < 0 || to < 0 ? "" : page.substring(from + first.length(), to);
    }
}
