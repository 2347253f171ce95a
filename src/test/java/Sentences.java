import java.util.ArrayList;
import java.util.HashSet;
import java.util.List;
import java.util.Set;

/** Sentences of the document, each with the test that is its own. */
final class Sentences {
    interface Test {
        void run();
    }

    private record Sentence(String part, String words, Test test) {
        String name() {
            return part + ": " + words;
        }
    }

    private final List<Sentence> tested = new ArrayList<>();
    private final Set<String> free = new HashSet<>();
    private String part = "";

    /** The sentences that follow stand in this part of the document. */
    void part(String name) {
        part = name;
    }

    void test(String words, Test test) {
        tested.add(new Sentence(part, words, test));
    }

    /** A sentence that no call can break. */
    void free(String words) {
        free.add(part + ": " + words);
    }

    /** Answers false if the sentence does not hold, or if its test looks at nothing. */
    private boolean holds(Sentence sentence) {
        int checksBefore = Checks.checks;
        int wrongBefore = Checks.wrong;
        Checks.about = sentence.name();
        Object outcome = Checks.outcome(() -> {
            sentence.test().run();
            return null;
        });
        if (outcome != null) {
            System.out.println(sentence.name() + ": its test ends with " + outcome);
        }
        return outcome == null && Checks.wrong == wrongBefore && Checks.checks > checksBefore;
    }

    /** Runs all tests; answers how many sentences do not hold. */
    int broken() {
        int broken = 0;
        for (Sentence sentence : tested) {
            if (!holds(sentence)) {
                System.out.println("BROKEN " + sentence.name());
                broken++;
            }
        }
        return broken;
    }

    int count() {
        return tested.size();
    }

    /** Compares with the sentences of the document, written as name() writes them; answers how many have no fellow. */
    int unmatched(Set<String> document) {
        Set<String> known = new HashSet<>(free);
        for (Sentence sentence : tested) {
            known.add(sentence.name());
        }
        return tellMissing("no test for", document, known) + tellMissing("not in the document", known, document);
    }

    private static int tellMissing(String what, Set<String> names, Set<String> others) {
        int missing = 0;
        for (String name : names) {
            if (!others.contains(name)) {
                System.out.println(what + ": " + name);
                missing++;
            }
        }
        return missing;
    }
}
