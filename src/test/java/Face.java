import java.lang.reflect.InvocationTargetException;
import java.lang.reflect.Method;
import java.util.Map;
import java.util.TreeMap;

/** Calls a Powerwell by the names of its methods. An answer is told as a text: a value, or throws.Name. */
final class Face {
    private static final Map<String, Method> METHODS = methods();

    private Face() {
    }

    private static Map<String, Method> methods() {
        Map<String, Method> found = new TreeMap<>();
        for (Method method : Powerwell.class.getDeclaredMethods()) {
            if (java.lang.reflect.Modifier.isPublic(method.getModifiers())) {
                found.put(method.getName(), method);
            }
        }
        return found;
    }

    static String answer(Powerwell chip, String name, Object... arguments) {
        Method method = METHODS.get(name);
        if (method == null) {
            return "no method " + name;
        }
        try {
            return String.valueOf(method.invoke(chip, arguments));
        } catch (InvocationTargetException thrown) {
            return thrower(thrown.getCause()) + "throws." + thrown.getCause().getClass().getSimpleName();
        } catch (IllegalAccessException | IllegalArgumentException wrong) {
            return "can't be called: " + wrong;
        }
    }

    /** Nothing, if the class itself threw it: what a library throws out of it does not count as an answer. */
    private static String thrower(Throwable thrown) {
        StackTraceElement[] frames = thrown.getStackTrace();
        String owner = frames.length == 0 ? "the machine" : frames[0].getClassName();
        return owner.startsWith("Powerwell") ? "" : owner + " ";
    }

    /** All that can be seen of a chip without a change to it. */
    static String view(Powerwell chip) {
        StringBuilder seen = new StringBuilder();
        for (String name : new String[] {"sleeps", "cause", "onShare", "meanWarmth", "checksum", "isTrue"}) {
            see(seen, chip, name);
        }
        for (int user = -1; user < 6; user++) {
            see(seen, chip, "claimed", user);
        }
        seeAll(seen, chip, 3, "aim", "level", "speed", "isThrottled");
        seeAll(seen, chip, 8, "isOn", "warmth", "energy");
        seeAll(seen, chip, 10, "isAwake", "raw", "depthOf", "misses", "guess", "left", "read");
        return seen.toString();
    }

    private static void seeAll(StringBuilder seen, Powerwell chip, int count, String... names) {
        for (int i = 0; i < count; i++) {
            for (String name : names) {
                if (see(seen, chip, name, i).equals("throws.IndexOutOfBoundsException")) {
                    return;
                }
            }
        }
    }

    private static String see(StringBuilder seen, Powerwell chip, String name, Object... arguments) {
        String answer = answer(chip, name, arguments);
        seen.append(name).append(java.util.Arrays.toString(arguments)).append('=').append(answer).append(' ');
        return answer;
    }
}
