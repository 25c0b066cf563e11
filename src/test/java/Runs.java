import java.io.IOException;
import java.nio.file.Files;
import java.nio.file.Path;
import java.util.ArrayList;
import java.util.List;
import java.util.regex.Matcher;
import java.util.regex.Pattern;
import java.util.stream.Stream;

/**
 * The runs of calls in src/test/runs, written as the document writes its examples. A line "run 4: ..." begins
 * a test of promise 4 on a new object ("run -: ..." one of no single promise); a line that begins with # is
 * a remark; all others hold calls with their answers, parted by ";". An answer that is left out may be any value.
 */
final class Runs {
    private static final Pattern HEAD = Pattern.compile("run (\\d+|-): (.+)");
    private static final Pattern CALL = Pattern.compile("(\\w+)\\(([^)]*)\\)(?: = (\\S+))?");
    private static final int PROMISES = 41;
    private static final int CALLS = 512;

    private final List<Outcome> outcomes = new ArrayList<>();
    private final boolean[] isTested = new boolean[PROMISES + 1];
    private Outcome outcome;
    private Powerwell chip;
    private int calls;

    List<Outcome> all() throws IOException {
        try (Stream<Path> files = Files.list(Path.of("src/test/runs"))) {
            for (Path file : files.sorted().toList()) {
                runFile(file);
            }
        }
        outcomes.add(everyPromiseIsTested());
        return outcomes;
    }

    private void runFile(Path file) throws IOException {
        outcome = null;
        int number = 0;
        for (String line : Files.readAllLines(file)) {
            number++;
            String place = file.getFileName() + ":" + number;
            Matcher head = HEAD.matcher(line);
            if (head.matches()) {
                begin(head.group(1), place + " promise " + head.group(1) + ": " + head.group(2));
            } else if (!line.isBlank() && !line.startsWith("#")) {
                runLine(line, place);
            }
        }
    }

    private void begin(String promise, String title) {
        outcome = new Outcome(title);
        outcomes.add(outcome);
        chip = new Powerwell();
        calls = 0;
        if (!promise.equals("-")) {
            isTested[Integer.parseInt(promise)] = true;
        }
    }

    private void runLine(String line, String place) {
        if (outcome == null) {
            begin("-", place + " calls ahead of the first run");
        }
        for (String text : line.split(";")) {
            Matcher call = CALL.matcher(text.strip());
            if (call.matches()) {
                runCall(place + ": " + text.strip(), call.group(1), arguments(call.group(2)), call.group(3));
            } else if (!text.isBlank()) {
                outcome.fault(place + ": can't be read: " + text);
            }
        }
    }

    private void runCall(String what, String name, Object[] arguments, String due) {
        calls++;
        if (calls > CALLS) {
            outcome.fault(what + " is beyond the 512th call");
            return;
        }
        boolean isRefused = due != null && due.startsWith("throws.");
        String before = isRefused ? Face.view(chip) : "";
        String got = Face.answer(chip, name, arguments);
        if (due == null ? got.contains("throws.") || got.contains(" ") : !due.equals(got)) {
            outcome.fault(what + " answered " + got);
        }
        if (isRefused) {
            outcome.same("what is seen behind " + what, Face.view(chip), before);
        }
    }

    private static Object[] arguments(String text) {
        if (text.isBlank()) {
            return new Object[0];
        }
        String[] parts = text.split(",");
        Object[] read = new Object[parts.length];
        for (int i = 0; i < parts.length; i++) {
            read[i] = argument(parts[i].strip());
        }
        return read;
    }

    private static Object argument(String text) {
        if (text.equals("true") || text.equals("false")) {
            return text.equals("true");
        }
        if (text.length() == 3 && text.startsWith("'")) {
            return text.charAt(1);
        }
        return Integer.valueOf(text);
    }

    private Outcome everyPromiseIsTested() {
        Outcome all = new Outcome("every promise has a run");
        for (int promise = 1; promise <= PROMISES; promise++) {
            all.same("promise " + promise + " has a run", isTested[promise], true);
        }
        return all;
    }
}
