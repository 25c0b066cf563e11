import java.io.IOException;
import java.lang.reflect.Constructor;
import java.lang.reflect.Field;
import java.lang.reflect.Method;
import java.lang.reflect.Modifier;
import java.nio.file.Files;
import java.nio.file.Path;
import java.util.ArrayList;
import java.util.List;
import java.util.Set;
import java.util.TreeSet;
import java.util.regex.Matcher;
import java.util.regex.Pattern;

/** The face of the class against the document's, and the rules of LANGUAGE.md that can be seen from the text. */
final class FaceTest {
    private static final Pattern DECLARED = Pattern.compile("    public (\\w+) (\\w+)\\(([^)]*)\\)(?: throws (.*))?;");
    private static final String[] FORBIDDEN = {
        "->", "::", "finally", "synchronized", "assert ", "Exact(", "getMessage", "static {", "record ", "protected ",
        "System.nano", "System.current", "System.out", "Random", "Thread", "hashCode", "toString", "equals",
        "+ \"", "\" +",
    };

    private FaceTest() {
    }

    static List<Outcome> all() throws IOException {
        List<Outcome> outcomes = new ArrayList<>();
        outcomes.add(faceIsTheDocuments());
        outcomes.add(nothingElseIsSeen());
        outcomes.add(textKeepsToTheLanguage());
        return outcomes;
    }

    private static Outcome faceIsTheDocuments() throws IOException {
        Outcome outcome = new Outcome("the face is the document's");
        Set<String> due = new TreeSet<>();
        for (String line : Files.readAllLines(Path.of("../shared/DOC.md"))) {
            Matcher method = DECLARED.matcher(line);
            if (method.matches()) {
                due.add(method.group(1) + " " + method.group(2) + "(" + typesOf(method.group(3)) + ")"
                        + sorted(method.group(4) == null ? "" : method.group(4)));
            }
        }
        Set<String> got = new TreeSet<>();
        for (Method method : Powerwell.class.getDeclaredMethods()) {
            if (Modifier.isPublic(method.getModifiers())) {
                got.add(method.getReturnType().getSimpleName() + " " + method.getName() + "("
                        + names(method.getParameterTypes()) + ")" + sorted(names(method.getExceptionTypes())));
            }
        }
        outcome.same("how many methods the document has", due.size(), 40);
        outcome.same("the face", got, due);
        return outcome;
    }

    private static String typesOf(String parameters) {
        return parameters.replaceAll("(\\w+) \\w+", "$1");
    }

    private static String names(Class<?>[] types) {
        List<String> names = new ArrayList<>();
        for (Class<?> type : types) {
            names.add(type.getSimpleName());
        }
        return String.join(", ", names);
    }

    private static Set<String> sorted(String names) {
        return new TreeSet<>(List.of(names.split(", ")));
    }

    private static Outcome nothingElseIsSeen() {
        Outcome outcome = new Outcome("nothing beside the face is seen");
        Class<?> face = Powerwell.class;
        outcome.same("that the class is public and final", face.getModifiers(), Modifier.PUBLIC | Modifier.FINAL);
        Constructor<?>[] constructors = face.getDeclaredConstructors();
        outcome.same("how many constructors there are", constructors.length, 1);
        outcome.same("that the constructor is public", constructors[0].getModifiers(), Modifier.PUBLIC);
        outcome.same("what the constructor takes", constructors[0].getParameterCount(), 0);
        for (Field field : face.getDeclaredFields()) {
            outcome.same("that " + field + " is private", Modifier.isPrivate(field.getModifiers()), true);
        }
        Set<String> publicNames = new TreeSet<>();
        for (Method method : face.getDeclaredMethods()) {
            if (Modifier.isPublic(method.getModifiers())) {
                publicNames.add(method.getName());
            }
        }
        seePrivateMethods(outcome, face, publicNames);
        for (Class<?> inner : face.getDeclaredClasses()) {
            outcome.same("that " + inner + " is private", Modifier.isPrivate(inner.getModifiers()), true);
            outcome.same("that " + inner + " is static", Modifier.isStatic(inner.getModifiers()), true);
            seePrivateMethods(outcome, inner, publicNames);
        }
        return outcome;
    }

    private static void seePrivateMethods(Outcome outcome, Class<?> type, Set<String> publicNames) {
        for (Method method : type.getDeclaredMethods()) {
            int modifiers = method.getModifiers();
            if (Modifier.isPublic(modifiers)) {
                outcome.same("that " + method + " is of the face", type, Powerwell.class);
                continue;
            }
            outcome.same("that " + method + " is private", Modifier.isPrivate(modifiers), true);
            outcome.same("that " + method + " has a public name", publicNames.contains(method.getName()), false);
        }
    }

    private static Outcome textKeepsToTheLanguage() throws IOException {
        Outcome outcome = new Outcome("the text keeps to the language");
        int number = 0;
        for (String line : Files.readAllLines(Path.of("src/main/java/Powerwell.java"))) {
            number++;
            String code = line.replaceAll("//.*|^\\s*/?\\*.*", "");
            for (String sign : FORBIDDEN) {
                if (code.contains(sign)) {
                    outcome.fault("line " + number + " has " + sign);
                }
            }
            boolean isAllowed = code.matches("import java\\.util\\.(ArrayList|NoSuchElementException);");
            if (code.startsWith("import ") && !isAllowed) {
                outcome.fault("line " + number + " imports what the language lacks");
            }
        }
        return outcome;
    }
}
