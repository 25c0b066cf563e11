import java.io.IOException;
import java.lang.reflect.Method;
import java.lang.reflect.Modifier;
import java.nio.file.Files;
import java.nio.file.Path;
import java.util.ArrayList;
import java.util.List;
import java.util.Set;
import java.util.TreeSet;
import java.util.regex.Matcher;
import java.util.regex.Pattern;
import java.util.stream.Stream;

/**
 * The runs of calls in src/test/runs, written as the document writes its examples. A line "run 4: ..." begins
 * a test of promise 4 on a new object ("run -: ..." one of no single promise); a line that begins with # is
 * a remark; all others hold calls with their answers, parted by ";". An answer that is left out may be any value.
 * Behind "get(0) x 9 = 9" stands the answer of the last of nine calls. What a title quotes stands in the document.
 * What stands behind "says" are the words of "Terms", all of them, one behind the other. The examples of the
 * document are run as they stand there.
 */
final class Runs {
    private static final Pattern HEAD = Pattern.compile("run (\\d+|-): (.+)");
    private static final Pattern CALL = Pattern.compile("(\\w+)\\(([^)]*)\\)(?: x (\\d+))?(?: = (\\S+))?");
    private static final Pattern QUOTE = Pattern.compile("\"([^\"]*)\"");
    private static final int PROMISES = 41;
    private static final int CALLS = 512;

    private final List<Outcome> outcomes = new ArrayList<>();
    private final String document = plain(Files.readString(Path.of("../shared/DOC.md")));
    private final StringBuilder said = new StringBuilder();
    private final boolean[] isTested = new boolean[PROMISES + 1];
    private Outcome outcome;
    private Powerwell chip;
    private int calls;
    /** What was called in this run and not refused. */
    private final List<Call> taken = new ArrayList<>();
    private final Set<String> refusals = new TreeSet<>();

    private record Call(String name, Object[] arguments) {
        String on(Powerwell chip) {
            return Face.answer(chip, name, arguments);
        }
    }

    Runs() throws IOException {
    }

    private static String plain(String text) {
        return text.replace("`", "").replaceAll("\\s+", " ");
    }

    List<Outcome> all() throws IOException {
        runExamples();
        try (Stream<Path> files = Files.list(Path.of("src/test/runs"))) {
            for (Path file : files.sorted().toList()) {
                runFile(file);
            }
        }
        outcomes.add(allTermsAreSaid());
        outcomes.add(everyPromiseIsTested());
        outcomes.add(everyExceptionWasMet());
        return outcomes;
    }

    private void runExamples() {
        int number = 0;
        for (String example : between("result. - ", " ## Promise 1:").split("\\. - ")) {
            number++;
            begin("-", "example " + number + " of the document");
            runLine(example.replaceAll("\\.$", ""), "example " + number);
            outcome.same("that the example has calls", calls > 0, true);
        }
    }

    /** Nothing, if the document lacks one of the two, which the tests notice by what is missing then. */
    private String between(String first, String last) {
        int from = document.indexOf(first);
        int to = document.indexOf(last);
        return from < 0 || to < from ? "" : document.substring(from + first.length(), to);
    }

    private void runFile(Path file) throws IOException {
        outcome = null;
        int number = 0;
        for (String line : Files.readAllLines(file)) {
            number++;
            String place = file.getFileName() + ":" + number;
            Matcher head = HEAD.matcher(line);
            if (head.matches()) {
                begin(head.group(1), place + " promise " + head.group(1) + ": " + head.group(2));
            } else if (line.startsWith("says ")) {
                said.append(line.substring("says".length()));
            } else if (!line.isBlank() && !line.startsWith("#")) {
                runLine(line, place);
            }
        }
    }

    private void begin(String promise, String title) {
        outcome = new Outcome(title);
        outcomes.add(outcome);
        chip = new Powerwell();
        calls = 0;
        taken.clear();
        Matcher quote = QUOTE.matcher(title);
        while (quote.find()) {
            outcome.same("that the document has: " + quote.group(1), document.contains(quote.group(1)), true);
        }
        if (!promise.equals("-")) {
            isTested[Integer.parseInt(promise)] = true;
        }
    }

    private void runLine(String line, String place) {
        if (outcome == null) {
            begin("-", place + " calls ahead of the first run");
        }
        for (String text : line.split(";")) {
            Matcher call = CALL.matcher(text.strip());
            if (call.matches()) {
                Call read = new Call(call.group(1), arguments(call.group(2)));
                int times = call.group(3) == null ? 1 : Integer.parseInt(call.group(3));
                runCalls(place + ": " + text.strip(), read, times, call.group(4));
            } else if (!text.isBlank()) {
                outcome.fault(place + ": can't be read: " + text);
            }
        }
    }

    private void runCalls(String what, Call call, int times, String due) {
        for (int i = 1; i < times; i++) {
            runCall(what + " (" + i + ")", call, null);
        }
        runCall(what, call, due);
    }

    private void runCall(String what, Call call, String due) {
        calls++;
        if (calls > CALLS) {
            outcome.fault(what + " is beyond the 512th call");
            return;
        }
        if (due != null && due.startsWith("throws.")) {
            runRefused(what, call, due);
            return;
        }
        String got = call.on(chip);
        if (due == null ? got.contains("throws.") || got.contains(" ") : !due.equals(got)) {
            outcome.fault(what + " answered " + got);
        }
        taken.add(call);
    }

    /** A call that throws changes nothing, neither what is seen at once nor how the chip goes on. */
    private void runRefused(String what, Call call, String due) {
        String before = Face.view(chip);
        outcome.same(what, call.on(chip), due);
        outcome.same("what is seen behind " + what, Face.view(chip), before);
        Powerwell refusing = again();
        call.on(refusing);
        outcome.same("how the chip goes on behind " + what, Probe.of(refusing), Probe.of(again()));
        refusals.add(call.name() + " " + due);
    }

    private Powerwell again() {
        Powerwell twin = new Powerwell();
        for (Call call : taken) {
            call.on(twin);
        }
        return twin;
    }

    static Object[] arguments(String text) {
        if (text.isBlank()) {
            return new Object[0];
        }
        String[] parts = text.split(",");
        Object[] read = new Object[parts.length];
        for (int i = 0; i < parts.length; i++) {
            read[i] = argument(parts[i].strip());
        }
        return read;
    }

    private static Object argument(String text) {
        if (text.equals("true") || text.equals("false")) {
            return text.equals("true");
        }
        if (text.length() == 3 && text.startsWith("'")) {
            return text.charAt(1);
        }
        return Integer.valueOf(text);
    }

    private Outcome allTermsAreSaid() {
        Outcome all = new Outcome("all terms of the document have a run");
        all.same("what the runs say", said.toString().strip(), between("## Terms ", " Examples:"));
        return all;
    }

    private Outcome everyPromiseIsTested() {
        Outcome all = new Outcome("every promise has a run");
        for (int promise = 1; promise <= PROMISES; promise++) {
            all.same("promise " + promise + " has a run", isTested[promise], true);
        }
        return all;
    }

    private Outcome everyExceptionWasMet() {
        Outcome all = new Outcome("every exception of the face is met in a run");
        for (Method method : Powerwell.class.getDeclaredMethods()) {
            if (!Modifier.isPublic(method.getModifiers())) {
                continue;
            }
            for (Class<?> thrown : method.getExceptionTypes()) {
                String refusal = method.getName() + " throws." + thrown.getSimpleName();
                all.same("that a run has " + refusal, refusals.contains(refusal), true);
            }
        }
        return all;
    }
}
