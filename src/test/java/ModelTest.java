import java.util.ArrayList;
import java.util.Arrays;
import java.util.List;
import java.util.Map;
import java.util.TreeMap;

/** Long runs of calls, made by a fixed row of numbers, on the class and on the model: both answer the same. */
final class ModelTest {
    private static final int CALLS = 512;
    private static final int RUNS_OF_A_KIND = 150;
    private static final String[] LOOKS = {
        "aim", "level", "speed", "isThrottled", "isOn", "warmth", "energy", "isAwake", "read", "raw", "depthOf",
        "misses", "guess", "left", "claimed", "sleeps", "cause", "onShare", "meanWarmth", "checksum", "isTrue",
    };
    private static final String[] BUILDS = {
        "rail", "pair", "pair", "pair", "domain", "domain", "device", "device", "device", "need", "need", "depth",
        "source", "vote", "trip", "budget", "arm",
    };
    private static final String[] USES = {
        "get", "get", "get", "put", "put", "put", "tick", "tick", "tick", "work", "write", "write", "vote", "vote",
        "wake", "wake", "wake", "sleep", "mask", "arm", "arm", "trip", "budget", "need",
    };
    private static final int[] EXTREMES = {
        Integer.MIN_VALUE, -2, -1, 0, 1, 3, 6, 8, 10, 99, 100, 9999, 100000, Integer.MAX_VALUE,
    };

    /** What the arguments of each method are: its kinds, and how far they reach. */
    private static final Map<String, String> KINDS = kinds();

    private final Map<String, Integer> answers = new TreeMap<>();
    private long seed;

    private ModelTest(long seed) {
        this.seed = seed;
    }

    private static Map<String, String> kinds() {
        Map<String, String> kinds = new TreeMap<>();
        kinds.put("rail", "1-9 rule");
        kinds.put("pair", "rail 1-99 1-99");
        kinds.put("vote", "rail user 0-40");
        kinds.put("domain", "under rail flag");
        kinds.put("trip", "domain 11-400");
        kinds.put("budget", "rail 1-600 1-20");
        kinds.put("device", "domain 0-5 0-99");
        kinds.put("need", "device device");
        kinds.put("write", "device any");
        kinds.put("depth", "0-20 0-20");
        kinds.put("work", "device 1-300");
        kinds.put("tick", "1-7");
        kinds.put("claimed", "house");
        for (String name : List.of("arm", "mask")) {
            kinds.put(name, "source flag");
        }
        kinds.put("wake", "source");
        for (String name : List.of("aim", "level", "speed", "isThrottled")) {
            kinds.put(name, "rail");
        }
        for (String name : List.of("isOn", "warmth", "energy")) {
            kinds.put(name, "domain");
        }
        for (String name : List.of("get", "put", "isAwake", "read", "raw", "depthOf", "misses", "guess", "left")) {
            kinds.put(name, "device");
        }
        return kinds;
    }

    static List<Outcome> all() {
        List<Outcome> outcomes = new ArrayList<>();
        ModelTest test = new ModelTest(20261119);
        for (String kind : List.of("mixed", "built first", "star of domains", "long ticks", "wrong numbers")) {
            Outcome outcome = new Outcome("the class answers as the model does: " + kind);
            for (int run = 0; run < RUNS_OF_A_KIND && outcome.isPassed(); run++) {
                test.runOne(outcome, kind);
            }
            outcomes.add(outcome);
        }
        outcomes.add(test.everyAnswerWasMet());
        return outcomes;
    }

    private int below(int bound) {
        seed = seed * 6364136223846793005L + 1442695040888963407L;
        return (int) Math.floorMod(seed >>> 33, (long) bound);
    }

    private void runOne(Outcome outcome, String kind) {
        Powerwell chip = new Powerwell();
        Model model = new Model();
        StringBuilder told = new StringBuilder();
        int built = kind.equals("built first") || kind.equals("long ticks") ? 90 : 30;
        for (int call = 0; call < CALLS && outcome.isPassed(); call++) {
            String name = next(kind, call, built);
            Object[] arguments = arguments(name, kind);
            if (kind.equals("star of domains") && name.equals("domain")) {
                arguments[0] = call < 10 ? -1 : below(6) == 0 ? below(8) : 0;
            }
            if ((name.equals("pair") || name.equals("depth")) && below(3) > 0) {
                // What grows with the calls lets rails come to have all five pairs, and the chip all depths.
                arguments[arguments.length - 2] = 1 + call * 98 / CALLS;
                arguments[arguments.length - 1] = 1 + call * 98 / CALLS;
            }
            compare(outcome, chip, model, told, name, arguments);
        }
        for (String name : LOOKS) {
            for (int i = 0; i < 10 && outcome.isPassed(); i++) {
                Object[] all = KINDS.containsKey(name) ? new Object[] {i} : new Object[0];
                compare(outcome, chip, model, told, name, all);
            }
        }
    }

    private String next(String kind, int call, int built) {
        if (call < built) {
            return BUILDS[below(BUILDS.length)];
        }
        int chance = below(100);
        if (chance < 45) {
            return LOOKS[below(LOOKS.length)];
        }
        return chance < 50 ? BUILDS[below(BUILDS.length)] : USES[below(USES.length)];
    }

    private void compare(
            Outcome outcome, Powerwell chip, Model model, StringBuilder told, String name, Object[] arguments) {
        String due = model.answer(name, arguments);
        boolean isRefused = due.startsWith("throws.");
        String before = isRefused ? Face.view(chip) : "";
        String got = Face.answer(chip, name, arguments);
        told.append(name).append(Arrays.toString(arguments)).append(" = ").append(got).append("; ");
        answers.merge(name + " " + (isRefused ? due : "answers"), 1, Integer::sum);
        if (!got.equals(due)) {
            outcome.fault("due is " + due + " at the end of: " + told);
        } else if (isRefused && !before.equals(Face.view(chip))) {
            outcome.fault("a call that throws changed something at the end of: " + told);
        }
    }

    private Object[] arguments(String name, String kind) {
        if (!KINDS.containsKey(name)) {
            return new Object[0];
        }
        String[] kinds = KINDS.get(name).split(" ");
        Object[] made = new Object[kinds.length];
        for (int i = 0; i < made.length; i++) {
            made[i] = argument(kinds[i], kind);
        }
        if (name.equals("tick") && kind.equals("long ticks") && below(4) == 0) {
            made[0] = 1 + below(200);
        }
        return made;
    }

    private Object argument(String of, String kind) {
        if (of.equals("flag")) {
            return below(3) > 0;
        }
        if (of.equals("rule")) {
            return below(8) == 0 ? (char) below(256) : below(2) == 0 ? 'g' : 's';
        }
        if (of.equals("any") || below(kind.equals("wrong numbers") ? 5 : 60) == 0) {
            return below(2) == 0 ? EXTREMES[below(EXTREMES.length)] : below(300) - 100;
        }
        return switch (of) {
            case "rail" -> below(3);
            case "domain" -> below(2) == 0 ? below(8) : below(3);
            case "device" -> below(10);
            case "user" -> below(6);
            case "source" -> below(6);
            case "under" -> below(8) - 1;
            case "house" -> below(7) - 1;
            default -> between(of);
        };
    }

    private int between(String range) {
        int dash = range.indexOf('-');
        int least = Integer.parseInt(range.substring(0, dash));
        int greatest = Integer.parseInt(range.substring(dash + 1));
        return least + below(greatest - least + 1);
    }

    /** Runs that never meet an exception, or never get past one, would prove nothing of it. */
    private Outcome everyAnswerWasMet() {
        Outcome outcome = new Outcome("the long runs met every kind of answer");
        for (java.lang.reflect.Method method : Powerwell.class.getDeclaredMethods()) {
            if (!java.lang.reflect.Modifier.isPublic(method.getModifiers())) {
                continue;
            }
            if (!answers.containsKey(method.getName() + " answers")) {
                outcome.fault(method.getName() + " never answered");
            }
            for (Class<?> thrown : method.getExceptionTypes()) {
                if (!answers.containsKey(method.getName() + " throws." + thrown.getSimpleName())) {
                    outcome.fault(method.getName() + " never threw " + thrown.getSimpleName());
                }
            }
        }
        return outcome;
    }
}
