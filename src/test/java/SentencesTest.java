import java.io.IOException;
import java.nio.file.Files;
import java.nio.file.Path;
import java.util.LinkedHashSet;
import java.util.Set;
import java.util.regex.Matcher;
import java.util.regex.Pattern;

/** Each sentence of the document has a test of its own, and holds. */
public final class SentencesTest {
    private static final Path DOCUMENT = Path.of("../shared/DOC.md");
    private static final Pattern HEADING = Pattern.compile("#+ (?<plain>[^:]*).*|<h2>(?<inner>.*)</h2>");
    /** The line of the face with which a promise begins. */
    private static final Pattern SIGNATURE = Pattern.compile("^`[^`]*\\([^`]*\\)[^`]*`: ");
    /** "- `load`: the load" names a parameter and says no more. */
    private static final Pattern BARE_PARAMETER = Pattern.compile("- `\\w+`: [a-zA-Z ]+");

    private final Set<String> sentences = new LinkedHashSet<>();
    private final StringBuilder paragraph = new StringBuilder();
    private String part = "";

    private void read(Iterable<String> lines) {
        boolean inCode = false;
        for (String line : lines) {
            Matcher heading = HEADING.matcher(line);
            if (line.startsWith("```")) {
                inCode = !inCode;
            } else if (inCode) {
                continue;
            } else if (heading.matches()) {
                endParagraph();
                part = heading.group("plain") != null ? heading.group("plain") : heading.group("inner");
            } else {
                readText(line.trim());
            }
        }
        endParagraph();
    }

    private void readText(String line) {
        if (line.isEmpty() || line.startsWith("- ")) {
            endParagraph();
        }
        paragraph.append(paragraph.length() == 0 ? "" : " ").append(line);
    }

    private void endParagraph() {
        String text = SIGNATURE.matcher(paragraph).replaceFirst("");
        paragraph.setLength(0);
        for (String words : text.split("(?<=[.])\\s+(?=[A-Z])")) {
            if (!words.isBlank() && !BARE_PARAMETER.matcher(words).matches()) {
                sentences.add(part + ": " + words.trim());
            }
        }
    }

    public static void main(String[] args) throws IOException {
        Sentences tests = new Sentences();
        TermSentences.fill(tests);
        ChangeSentences.fill(tests);
        MemberSentences.fill(tests);
        WaySentences.fill(tests);
        SteelSentences.fill(tests);
        TextSentences.fill(tests);
        int broken = tests.broken();
        int unmatched = 0;
        if (Files.exists(DOCUMENT)) {
            SentencesTest document = new SentencesTest();
            document.read(Files.readAllLines(DOCUMENT));
            unmatched = tests.unmatched(document.sentences);
        } else {
            System.out.println("there is no " + DOCUMENT + " to compare the sentences with");
        }
        System.out.println(tests.count() + " sentences, " + broken + " broken, " + unmatched + " unmatched; "
                + Checks.checks + " checks");
        System.exit(broken == 0 && unmatched == 0 ? 0 : 1);
    }
}
