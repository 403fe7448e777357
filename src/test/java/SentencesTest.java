import java.io.IOException;
import java.lang.reflect.Method;
import java.nio.file.Files;
import java.nio.file.Path;
import java.util.ArrayList;
import java.util.List;
import java.util.Set;
import java.util.TreeSet;

/** Every sentence of the document stands in sentences.txt, with tests that there are. */
public final class SentencesTest {
    private static final Path DOCUMENT = Path.of("../shared/DOC.md");
    private static final Path SENTENCES = Path.of("src/test/sentences.txt");
    private static final List<Class<?>> BOUNDS = List.of(
            BoundsOfRowsTest.class, BoundsOfLinesTest.class, BoundsOfDeedsTest.class, BoundsOfAsidesTest.class,
            BoundsOfChancesTest.class, BoundsOfToldTest.class, BoundsOfTermsTest.class);
    private static final int PROMISES = 41;
    private static final Check check = new Check("SentencesTest");

    /** Some words of the document, and the tests below them; it is said why, if there are none. */
    private record Sentence(StringBuilder words, List<String> tests, StringBuilder why) {
        Sentence() {
            this(new StringBuilder(), new ArrayList<>(), new StringBuilder());
        }

        boolean isOver() {
            return !tests.isEmpty() || !why.isEmpty();
        }
    }

    public static void main(String[] args) throws IOException {
        List<Sentence> sentences = read();
        words(sentences);
        tests(sentences);
        check.end();
    }

    private static void yes(String what, boolean is) {
        check.due(what, is ? 1 : 0, 1);
    }

    private static List<Sentence> read() throws IOException {
        List<Sentence> all = new ArrayList<>(List.of(new Sentence()));
        for (String line : Files.readAllLines(SENTENCES)) {
            if (line.isBlank() || line.startsWith("#")) {
                continue;
            }
            if (line.startsWith("> ") && all.get(all.size() - 1).isOver()) {
                all.add(new Sentence());
            }
            Sentence latest = all.get(all.size() - 1);
            if (line.startsWith("> ")) {
                latest.words().append(line.substring(1));
            } else if (line.startsWith("- ")) {
                latest.why().append(line.substring(2));
            } else {
                latest.tests().addAll(List.of(line.strip().split("\\s+")));
            }
        }
        return all;
    }

    private static List<String> split(String text) {
        return List.of(text.strip().split("\\s+"));
    }

    private static void words(List<Sentence> sentences) throws IOException {
        if (!Files.exists(DOCUMENT)) {
            System.out.println("SentencesTest: there is no " + DOCUMENT + " to compare with");
            return;
        }
        List<String> due = split(Files.readString(DOCUMENT));
        StringBuilder text = new StringBuilder();
        sentences.forEach(sentence -> text.append(sentence.words()));
        List<String> told = split(text.toString());
        int same = 0;
        while (same < Math.min(due.size(), told.size()) && due.get(same).equals(told.get(same))) {
            same++;
        }
        List<String> next = due.subList(same, Math.min(same + 8, due.size()));
        check.due("words of the document, up to where it goes on " + next, same, due.size());
        check.due("words of sentences.txt", told.size(), due.size());
    }

    private static void tests(List<Sentence> sentences) {
        Set<String> named = new TreeSet<>();
        for (Sentence sentence : sentences) {
            yes("'" + sentence.words() + "' has tests, or it is said why not", sentence.isOver());
            for (String test : sentence.tests()) {
                yes(test + " is there", isThere(test));
                named.add(test);
            }
        }
        int promise = 0;
        for (Sentence sentence : sentences) {
            promise += sentence.words().indexOf("## Promise " + (promise + 1) + ":") >= 0 ? 1 : 0;
        }
        check.due("promises in their order", promise, PROMISES);
        for (Class<?> tests : BOUNDS) {
            for (Method m : tests.getDeclaredMethods()) {
                boolean isTest = m.getName().startsWith("promise") || m.getName().startsWith("terms");
                yes(m.getName() + " stands at a sentence", !isTest || named.contains(m.getName()));
            }
        }
    }

    /** A test of a BoundsOf..Test is told by its name alone. */
    private static boolean isThere(String test) {
        int dot = test.indexOf('.');
        if (dot < 0) {
            return BOUNDS.stream().anyMatch(tests -> has(tests, test));
        }
        try {
            return has(Class.forName(test.substring(0, dot)), test.substring(dot + 1));
        } catch (ClassNotFoundException none) {
            return false;
        }
    }

    private static boolean has(Class<?> tests, String name) {
        for (Method m : tests.getDeclaredMethods()) {
            if (m.getName().equals(name)) {
                return true;
            }
        }
        return false;
    }
}
