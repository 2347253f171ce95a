import java.io.IOException;
import java.lang.reflect.Constructor;
import java.lang.reflect.Executable;
import java.lang.reflect.Field;
import java.lang.reflect.Method;
import java.lang.reflect.Modifier;
import java.nio.file.Files;
import java.nio.file.Path;
import java.util.Set;
import java.util.TreeSet;

/** The compiled class shows what the document's "The public face" lists, and nothing else. */
public final class FaceTest {
    private static final Path DOCUMENT = Path.of("../shared/DOC.md");
    private static final String PUBLIC = "    public ";
    /** The constructor and 57 methods; so a document that is read wrongly does not pass for an empty face. */
    private static final int PROMISES = 58;

    private static int wrong = 0;

    private static void demand(boolean holds, String otherwise) {
        if (!holds) {
            wrong++;
            System.out.println(otherwise);
        }
    }

    private static String described(Executable executable) {
        StringBuilder text = new StringBuilder();
        if (executable instanceof Method method) {
            text.append(method.getReturnType().getSimpleName()).append(' ');
        }
        text.append(executable.getName()).append('(');
        for (Class<?> type : executable.getParameterTypes()) {
            text.append(type.getSimpleName()).append(' ');
        }
        text.append(") ");
        for (Class<?> type : executable.getExceptionTypes()) {
            text.append(type.getSimpleName()).append(' ');
        }
        return text.toString();
    }

    /** Turns a line of the document into the form of described: without names of parameters. */
    private static String wanted(String line) {
        String head = line.substring(0, line.indexOf('('));
        String parameters = line.substring(line.indexOf('(') + 1, line.indexOf(')'));
        StringBuilder text = new StringBuilder(head).append('(');
        for (String parameter : parameters.isEmpty() ? new String[0] : parameters.split(", ")) {
            text.append(parameter.split(" ")[0]).append(' ');
        }
        text.append(") ");
        int thrown = line.indexOf("throws ");
        for (String type : thrown < 0 ? new String[0] : line.substring(thrown + 7).split(", ")) {
            text.append(type).append(' ');
        }
        return text.toString();
    }

    /** The document tells the face twice: in its own part and at the head of each promise. */
    private static Set<String> wantedFace(boolean fromPromises) throws IOException {
        Set<String> wanted = new TreeSet<>();
        for (String line : Files.readAllLines(DOCUMENT)) {
            boolean inFace = line.startsWith(PUBLIC) && line.endsWith(";");
            boolean inPromise = line.matches("`[^`]*\\([^`]*\\)[^`]*`: .*");
            if (fromPromises && inPromise) {
                wanted.add(wanted(line.substring(1, line.indexOf('`', 1))));
            } else if (!fromPromises && inFace) {
                wanted.add(wanted(line.substring(PUBLIC.length(), line.length() - 1)));
            }
        }
        demand(wanted.size() == PROMISES, "the document names " + wanted.size() + " methods");
        return wanted;
    }

    private static Set<String> foundFace() {
        Set<String> found = new TreeSet<>();
        for (Constructor<?> constructor : BridgeChapel.class.getDeclaredConstructors()) {
            demand(Modifier.isPublic(constructor.getModifiers()), "a constructor is not public");
            found.add(described(constructor));
        }
        for (Method method : BridgeChapel.class.getDeclaredMethods()) {
            if (Modifier.isPublic(method.getModifiers())) {
                demand(!Modifier.isStatic(method.getModifiers()), method + " is static");
                found.add(described(method));
            } else {
                demand(Modifier.isPrivate(method.getModifiers()), method + " is neither public nor private");
            }
        }
        for (Field field : BridgeChapel.class.getDeclaredFields()) {
            demand(Modifier.isPrivate(field.getModifiers()), field + " is not private");
        }
        return found;
    }

    private static void checkSame(Set<String> wanted, Set<String> found) {
        for (String line : wanted) {
            demand(found.contains(line), "missing: " + line);
        }
        for (String line : found) {
            demand(wanted.contains(line), "not in the document: " + line);
        }
    }

    public static void main(String[] args) throws IOException {
        Set<String> found = foundFace();
        checkSame(wantedFace(false), found);
        checkSame(wantedFace(true), found);
        demand(Modifier.isFinal(BridgeChapel.class.getModifiers()), "the class is not final");
        demand(Modifier.isPublic(BridgeChapel.class.getModifiers()), "the class is not public");
        System.out.println(wrong == 0 ? "the face is the document's" : wrong + " faults");
        System.exit(wrong == 0 ? 0 : 1);
    }
}
