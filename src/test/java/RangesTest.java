import java.util.ArrayList;
import java.util.List;
import java.util.Set;
import java.util.TreeSet;

/** Every range of the document: all its numbers are taken, and all numbers around it, near and far, are refused. */
final class RangesTest {
    private static final String INDEX = "throws.IndexOutOfBoundsException";
    private static final String ARGUMENT = "throws.IllegalArgumentException";
    private static final String STATE = "throws.IllegalStateException";
    private static final int NEAR = 300;

    private final List<Outcome> outcomes = new ArrayList<>();

    private RangesTest() {
    }

    static List<Outcome> all() {
        RangesTest test = new RangesTest();
        test.numbers();
        test.things();
        test.rules();
        test.mostOfEach();
        return test.outcomes;
    }

    private Outcome begin(String title) {
        Outcome outcome = new Outcome(title);
        outcomes.add(outcome);
        return outcome;
    }

    private void numbers() {
        range("promise 2: a ramp, 1 to 9", 1, 9, ARGUMENT, "rail", "?", 'g');
        range("promise 3: the speed, 1 to 99", 1, 99, ARGUMENT, "pair", 0, "?", 50);
        range("promise 3: the level, 1 to 99", 1, 99, ARGUMENT, "pair", 0, 50, "?");
        range("promise 4: the user, 0 to 5", 0, 5, INDEX, "vote", 0, "?", 50);
        range("promise 4: a speed of a rail, 0 to 99", 0, 99, ARGUMENT, "vote", 0, 0, "?");
        range("promise 12: the trip, 11 to 9999", 11, 9999, ARGUMENT, "trip", 0, "?");
        range("promise 14: the energy, 1 to 99999", 1, 99999, ARGUMENT, "budget", 0, "?", 1);
        range("promise 14: so many ticks, 1 to 20", 1, 20, ARGUMENT, "budget", 0, 1, "?");
        range("promise 15: a delay, 0 to 20", 0, 20, ARGUMENT, "device", 0, "?", 0);
        range("promise 15: a tolerance, 0 to 99", 0, 99, ARGUMENT, "device", 0, 0, "?");
        range("promise 23: a cost, 0 to 99", 0, 99, ARGUMENT, "depth", "?", 0);
        range("promise 23: a least stay, 0 to 999", 0, 999, ARGUMENT, "depth", 0, "?");
        range("promise 27: work of 1 to 9999 units", 1, 9999, ARGUMENT, "work", 0, "?");
        range("promise 29: how many ticks, 1 to 200", 1, 200, ARGUMENT, "tick", "?");
        range("promise 30: the user, 0 to 5, or -1 for the house", -1, 5, INDEX, "claimed", "?");
        range("promise 20: any value", Integer.MIN_VALUE, Integer.MAX_VALUE, "", "write", 0, "?");
    }

    /** The only one of each kind has the number 0, and -1 is none but above a domain. */
    private void things() {
        for (String name : List.of("aim", "level", "speed", "isThrottled")) {
            range("no such rail: " + name, 0, 0, INDEX, name, "?");
        }
        range("no such rail: pair", 0, 0, INDEX, "pair", "?", 5, 5);
        range("no such rail: vote", 0, 0, INDEX, "vote", "?", 5, 5);
        range("no such rail: domain", 0, 0, INDEX, "domain", -1, "?", true);
        range("no such rail: budget", 0, 0, INDEX, "budget", "?", 5, 5);
        range("no such domain, or -1: domain", -1, 0, INDEX, "domain", "?", 0, true);
        for (String name : List.of("isOn", "warmth", "energy")) {
            range("no such domain: " + name, 0, 0, INDEX, name, "?");
        }
        range("no such domain: trip", 0, 0, INDEX, "trip", "?", 50);
        range("no such domain: device", 0, 0, INDEX, "device", "?", 5, 5);
        for (String name : List.of(
                "get", "put", "isAwake", "read", "raw", "depthOf", "misses", "guess", "left")) {
            range("no such device: " + name, 0, 0, INDEX, name, "?");
        }
        range("no such device: write", 0, 0, INDEX, "write", "?", 5);
        range("no such device: work", 0, 0, INDEX, "work", "?", 5);
        range("no such source: arm", 0, 0, INDEX, "arm", "?", true);
        range("no such source: mask", 0, 0, INDEX, "mask", "?", true);
        range("no such source: wake", 0, 0, INDEX, "wake", "?");
    }

    /** The argument "?" runs through all numbers that are tried; the chip has one of each thing, and is new each time. */
    private void range(String title, int least, int greatest, String refusal, String name, Object... arguments) {
        Outcome outcome = begin(title);
        for (int tried : numbersAround(least, greatest)) {
            Object[] given = arguments.clone();
            for (int i = 0; i < given.length; i++) {
                given[i] = given[i].equals("?") ? tried : given[i];
            }
            String got = Face.answer(one(), name, given);
            boolean isRefused = tried < least || tried > greatest;
            if (isRefused ? !got.equals(refusal) : got.contains("throws") || got.contains(" ")) {
                outcome.fault(name + java.util.Arrays.toString(given) + " answered " + got);
                return;
            }
        }
    }

    private static Set<Integer> numbersAround(int least, int greatest) {
        Set<Integer> numbers = new TreeSet<>();
        int lowest = Math.max(least, -NEAR) - NEAR;
        int highest = Math.min(greatest, 100_000) + NEAR;
        for (int number = lowest; number <= highest; number++) {
            numbers.add(number);
        }
        // A number that is cut to a byte, a char or a short must not slip in.
        for (int bit = 7; bit < 32; bit++) {
            for (int beside = -2; beside <= 2; beside++) {
                numbers.add((1 << bit) + beside);
                numbers.add(-(1 << bit) + beside);
            }
        }
        return numbers;
    }

    /** A chip with a rail, a domain, a device that is awake and a source. */
    private static Powerwell one() {
        Powerwell chip = new Powerwell();
        chip.rail(9, 'g');
        chip.domain(-1, 0, true);
        chip.device(0, 0, 0);
        chip.get(0);
        chip.source();
        return chip;
    }

    private void rules() {
        Outcome outcome = begin("promise 2: a rule, 'g' or 's', of all signs that there are");
        for (int sign = Character.MIN_VALUE; sign <= Character.MAX_VALUE; sign++) {
            String got = Face.answer(new Powerwell(), "rail", 5, (char) sign);
            outcome.same("rail(5, (char) " + sign + ")", got, sign == 'g' || sign == 's' ? "0" : ARGUMENT);
        }
    }

    private void mostOfEach() {
        manyOf("promise 2: at most 3 rails, numbered from 0", 3, "rail", 5, 'g');
        manyOf("promise 8: at most 8 domains, numbered from 0", 8, "domain", -1, 0, false);
        manyOf("promise 15: at most 10 devices, numbered from 0", 10, "device", 0, 0, 0);
        manyOf("promise 23: at most 4 depths, numbered from 0", 4, "depth", 5, 5);
        manyOf("promise 31: at most 6 sources, numbered from 0", 6, "source");
    }

    private void manyOf(String title, int most, String name, Object... arguments) {
        Outcome outcome = begin(title);
        Powerwell chip = new Powerwell();
        if (!name.equals("rail")) {
            chip.rail(9, 'g');
        }
        if (name.equals("device")) {
            chip.domain(-1, 0, true);
        }
        for (int i = 0; i < most; i++) {
            outcome.same(name + " number " + (i + 1), Face.answer(chip, name, arguments), "" + i);
        }
        for (int i = 0; i < 300; i++) {
            outcome.same(name + " beyond the last one", Face.answer(chip, name, arguments), STATE);
        }
    }
}
