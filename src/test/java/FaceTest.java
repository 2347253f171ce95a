import java.io.IOException;
import java.lang.reflect.Constructor;
import java.lang.reflect.Executable;
import java.lang.reflect.Field;
import java.lang.reflect.Method;
import java.lang.reflect.Modifier;
import java.nio.file.Files;
import java.nio.file.Path;
import java.util.HashSet;
import java.util.Set;
import java.util.TreeSet;
import java.util.regex.Matcher;
import java.util.regex.Pattern;

/** The public face is the document's, and the source holds nothing that LANGUAGE.md plainly rules out. */
public final class FaceTest {
    private static final Path SOURCE = Path.of("src/main/java/BridgeChapel.java");

    /** As the document writes them, without "public". */
    private static final String[] FACE = {
        "BridgeChapel()",
        "int addMember(int one, int other, int strength) throws IndexOutOfBoundsException, IllegalArgumentException, IllegalStateException",
        "int procession(int from, int to, int load) throws IndexOutOfBoundsException, IllegalArgumentException, NoSuchElementException, UnsupportedOperationException",
        "int makeVow(int dueDay, int amount) throws IllegalArgumentException, IllegalStateException",
        "int setForge(int units) throws IllegalArgumentException",
        "int repair(int member) throws IndexOutOfBoundsException, IllegalStateException, UnsupportedOperationException",
        "int abandon(int member) throws IndexOutOfBoundsException, IllegalStateException",
        "int resume(int member) throws IndexOutOfBoundsException, IllegalStateException",
        "int setNiche(char kind) throws IllegalArgumentException",
        "int put(int place, char kind, int weight) throws IndexOutOfBoundsException, IllegalArgumentException, UnsupportedOperationException, IllegalStateException",
        "int passDays(int days) throws IllegalArgumentException",
        "int memberCount()",
        "int firstJoint(int member) throws IndexOutOfBoundsException",
        "int secondJoint(int member) throws IndexOutOfBoundsException",
        "int crack(int member) throws IndexOutOfBoundsException",
        "int wear(int member) throws IndexOutOfBoundsException",
        "boolean isAbandoned(int member) throws IndexOutOfBoundsException",
        "int bearing(int member) throws IndexOutOfBoundsException",
        "int repairCost(int member) throws IndexOutOfBoundsException",
        "float strain(int member, int load) throws IndexOutOfBoundsException, ArithmeticException",
        "int strainBits(int member, int load) throws IndexOutOfBoundsException, ArithmeticException",
        "long links()",
        "int widestLoad(int from, int to) throws IndexOutOfBoundsException, IllegalArgumentException, NoSuchElementException",
        "int widestLoadByTrial(int from, int to) throws IndexOutOfBoundsException, IllegalArgumentException, NoSuchElementException",
        "int wayLength(int from, int to) throws IndexOutOfBoundsException, IllegalArgumentException, NoSuchElementException",
        "int wayJoint(int from, int to, int position) throws IndexOutOfBoundsException, IllegalArgumentException, NoSuchElementException",
        "boolean isCritical(int member) throws IndexOutOfBoundsException",
        "boolean isCriticalByRemoval(int member) throws IndexOutOfBoundsException",
        "int affordableLoad(int from, int to) throws IndexOutOfBoundsException, IllegalArgumentException, NoSuchElementException",
        "int affordableLoadByTable(int from, int to) throws IndexOutOfBoundsException, IllegalArgumentException, NoSuchElementException",
        "int memberByBearing(int rank) throws NoSuchElementException",
        "char nicheKind()",
        "int nicheWeight()",
        "int vowCount()",
        "int vowAt(int position) throws NoSuchElementException",
        "int dueDay(int vow) throws NoSuchElementException",
        "int amount(int vow) throws NoSuchElementException",
        "boolean canKeepAll()",
        "boolean canKeepAllBySums()",
        "int greatestVow(int dueDay) throws IllegalArgumentException, NoSuchElementException",
        "int keptTotal()",
        "int brokenTotal()",
        "int steel()",
        "int steelByAccounts()",
        "int day()",
        "double meanBearing() throws ArithmeticException",
        "float crackedShare() throws ArithmeticException",
        "boolean isConsistent()",
        "int renderMember(int member) throws IndexOutOfBoundsException",
        "int renderWay(int from, int to) throws IndexOutOfBoundsException, IllegalArgumentException, NoSuchElementException",
        "char outputAt(int index) throws IndexOutOfBoundsException",
        "int type(char character) throws IllegalArgumentException, IllegalStateException",
        "int runScript() throws IllegalArgumentException, IllegalStateException",
        "int errorPosition() throws NoSuchElementException",
        "int failedCommand() throws NoSuchElementException",
        "int undo() throws IllegalStateException",
        "int save()",
        "int restore() throws IllegalStateException"
    };

    /** What the rules name, as patterns over the source without its comments and texts. */
    private static final String[] RULED_OUT = {"\\bpackage\\b", "->", "::", "\\btry\\b", "\\bcatch\\b",
        "\\bfinally\\b", "\\bsynchronized\\b", "\\bassert\\b", "\\bstatic\\s*\\{", "\\bFloat\\b", "\\bDouble\\b",
        "\\bThread\\b", "\\bSystem\\.(?!arraycopy\\b)", "Exact\\b", "\\bRandom\\b", "\\bhashCode\\b", "\\bequals\\b",
        "\\btoString\\b", "\\bimport (?!java\\.util\\.NoSuchElementException;)", "\\bgetMessage\\b", "\\bprotected\\b",
        "\\bstatic (?!final|class)[\\w\\[\\]]+ \\w+( =|;)", "\\bwhile \\(true\\)", "\\bvar\\b"};

    private static int wrong = 0;

    private static void demand(boolean holds, String otherwise) {
        if (!holds) {
            wrong++;
            System.out.println(otherwise);
        }
    }

    private static String described(Executable executable) {
        StringBuilder text = new StringBuilder();
        if (executable instanceof Method method) {
            text.append(method.getReturnType().getSimpleName()).append(' ');
        }
        text.append(executable.getName()).append('(');
        for (Class<?> type : executable.getParameterTypes()) {
            text.append(type.getSimpleName()).append(' ');
        }
        text.append(") ");
        for (Class<?> type : executable.getExceptionTypes()) {
            text.append(type.getSimpleName()).append(' ');
        }
        return text.toString();
    }

    /** Turns a line of the document into the form of described: without names of parameters. */
    private static String wanted(String line) {
        String head = line.substring(0, line.indexOf('('));
        String parameters = line.substring(line.indexOf('(') + 1, line.indexOf(')'));
        StringBuilder text = new StringBuilder(head).append('(');
        for (String parameter : parameters.isEmpty() ? new String[0] : parameters.split(", ")) {
            text.append(parameter.split(" ")[0]).append(' ');
        }
        text.append(") ");
        int thrown = line.indexOf("throws ");
        for (String type : thrown < 0 ? new String[0] : line.substring(thrown + 7).split(", ")) {
            text.append(type).append(' ');
        }
        return text.toString();
    }

    private static void checkFace() {
        Set<String> wanted = new TreeSet<>();
        for (String line : FACE) {
            wanted.add(wanted(line));
        }
        Set<String> found = new TreeSet<>();
        for (Constructor<?> constructor : BridgeChapel.class.getDeclaredConstructors()) {
            demand(Modifier.isPublic(constructor.getModifiers()), "a constructor is not public");
            found.add(described(constructor));
        }
        for (Method method : BridgeChapel.class.getDeclaredMethods()) {
            if (Modifier.isPublic(method.getModifiers())) {
                demand(!Modifier.isStatic(method.getModifiers()), method + " is static");
                found.add(described(method));
            } else {
                demand(Modifier.isPrivate(method.getModifiers()), method + " is neither public nor private");
            }
        }
        for (Field field : BridgeChapel.class.getDeclaredFields()) {
            demand(Modifier.isPrivate(field.getModifiers()), field + " is not private");
        }
        demand(wanted.equals(found), "the face is " + found + " where the document wants " + wanted);
        demand(Modifier.isFinal(BridgeChapel.class.getModifiers()), "the class is not final");
    }

    private static void checkNested() {
        Set<String> faceNames = new HashSet<>();
        for (String line : FACE) {
            String head = line.substring(0, line.indexOf('('));
            faceNames.add(head.substring(head.lastIndexOf(' ') + 1));
        }
        int classes = 1;
        for (Class<?> nested : BridgeChapel.class.getDeclaredClasses()) {
            classes++;
            demand(Modifier.isStatic(nested.getModifiers()), nested + " is not static");
            demand(!Modifier.isPublic(nested.getModifiers()), nested + " is public");
            demand(nested.getDeclaredFields().length <= 20, nested + " has too many fields");
            for (Method method : nested.getDeclaredMethods()) {
                demand(!faceNames.contains(method.getName()), method + " has a name of the face");
                demand(method.getParameterCount() <= 7, method + " has too many parameters");
            }
        }
        for (Method method : BridgeChapel.class.getDeclaredMethods()) {
            demand(Modifier.isPublic(method.getModifiers()) || !faceNames.contains(method.getName()),
                    method + " has a name of the face");
        }
        demand(classes <= 12, "there are " + classes + " classes");
    }

    private static void checkSource() throws IOException {
        String source = Files.readString(SOURCE);
        for (int index = 0; index < source.length(); index++) {
            demand(source.charAt(index) < 128, "a sign at " + index + " is not plain");
        }
        String bare = source.replaceAll("(?s)/\\*.*?\\*/", " ").replaceAll("//[^\n]*", " ")
                .replaceAll("\"[^\"\n]*\"", "\"\"");
        for (String pattern : RULED_OUT) {
            Matcher matcher = Pattern.compile(pattern).matcher(bare);
            demand(!matcher.find(), "the source holds what is ruled out: " + pattern);
        }
    }

    public static void main(String[] args) throws IOException {
        checkFace();
        checkNested();
        checkSource();
        System.out.println(wrong == 0 ? "the face is the document's" : wrong + " faults");
        System.exit(wrong == 0 ? 0 : 1);
    }
}
