import java.lang.reflect.Method;
import java.nio.file.Files;
import java.nio.file.Path;
import java.util.List;
import java.util.TreeMap;
import java.util.TreeSet;
import java.util.regex.Matcher;
import java.util.regex.Pattern;

/**
 * Holds the tests of edges against the document (the path of which is the second argument): the words that a test says
 * it holds stand in the promise's section or in the terms, and no word of the terms or of a promise is left without one.
 */
public final class SentencesTest {
    private static final List<Class<? extends Edges>> TESTS = List.of(EdgesFieldTest.class, EdgesStepsTest.class,
        EdgesTextTest.class, EdgesMovesTest.class, EdgesBestTest.class, EdgesWhoTest.class, EdgesKeptTest.class);
    private static final int PROMISES = 32;

    /** Some words of the document, and which of their signs a test holds. */
    private static final class Section {
        final String text;
        final boolean[] held;

        Section(String text) {
            this.text = text.replaceAll("\\s+", " ").trim();
            held = new boolean[this.text.length()];
        }

        boolean hold(String words) {
            boolean found = false;
            for (int at = text.indexOf(words); at >= 0; at = text.indexOf(words, at + 1)) {
                found = true;
                for (int k = 0; k < words.length(); k++) held[at + k] = true;
            }
            return found;
        }

        /** The words of which not all signs are held. */
        String left() {
            StringBuilder b = new StringBuilder();
            Matcher word = Pattern.compile("[\\w'-]+").matcher(text);
            while (word.find()) {
                boolean all = true;
                for (int k = word.start(); k < word.end(); k++) all &= held[k];
                if (!all) b.append(word.group()).append(' ');
            }
            return b.toString();
        }
    }

    private static final TreeMap<Integer, Section> PROMISE = new TreeMap<>();
    private static Section terms;

    private static void cut(String doc) {
        String beginning = "THE FIELD has W (3 ..";
        Due.holds("the document begins the terms", doc.contains(beginning));
        String behind = between(doc, "## Terms", "## Promise 1:").replaceAll("Ahead of the calls[^\n]*\n", "");
        terms = new Section(beginning + " " + behind.replace("```text", "").replace("```", "").replace("======== 2 ", ""));
        Matcher m = Pattern.compile("## Promise (\\d+): [^\n]*\n\\s*`[^`]*`: ([^\n]*)\n").matcher(doc);
        while (m.find()) PROMISE.put(Integer.parseInt(m.group(1)), new Section(m.group(2)));
        due("promises", PROMISE.size(), PROMISES);
    }

    private static String between(String text, String from, String to) {
        int start = text.indexOf(from), end = text.indexOf(to);
        Due.holds(from + " ahead of " + to, start >= 0 && end > start);
        return text.substring(start + from.length(), end);
    }

    private static void due(String what, long got, long want) { Due.due(what, got, want); }

    private static void holdAll() {
        TreeSet<Integer> named = new TreeSet<>();
        for (Class<? extends Edges> tests : TESTS) {
            for (Method test : Edges.testsOf(tests)) {
                Holds holds = test.getAnnotation(Holds.class);
                boolean found = terms.hold(holds.words());
                for (int p : holds.promise()) {
                    Due.holds(test.getName() + " names a promise: " + p, PROMISE.containsKey(p));
                    found |= PROMISE.containsKey(p) && PROMISE.get(p).hold(holds.words());
                    named.add(p);
                }
                Due.holds(test.getName() + " says words of the document: '" + holds.words() + "'", found);
            }
        }
        due("promises that a test names", named.size(), PROMISES);
    }

    public static void main(String[] args) throws Exception {
        cut(Files.readString(Path.of(args[1])));
        holdAll();
        Due.holds("no words of the terms are left: " + terms.left(), terms.left().isEmpty());
        PROMISE.forEach((p, section) ->
            Due.holds("no words of promise " + p + " are left: " + section.left(), section.left().isEmpty()));
        Due.end();
    }
}
