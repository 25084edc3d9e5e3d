import java.io.IOException;
import java.lang.reflect.Method;
import java.util.BitSet;
import java.util.regex.Matcher;
import java.util.regex.Pattern;

/**
 * Every sentence that a test of boundaries names stands in the document, word by word, and no word of the
 * document's promises and terms is left without a test that names it.
 */
public final class EdgesCoverTest {
    private static final Class<?>[] TESTS = {EdgesOfTextsTest.class, EdgesOfRulesTest.class, EdgesOfDaysTest.class,
        EdgesOfWaysTest.class, EdgesOfListsTest.class};
    private static int wrong;

    private EdgesCoverTest() {
    }

    private static void fail(String what) {
        wrong++;
        System.out.println(what);
    }

    /** Marks all places at which a test's words stand in a part of the document; answers whether all stand there. */
    private static boolean mark(String part, Method test, BitSet covered) {
        boolean all = true;
        for (String words : test.getAnnotation(Edges.Says.class).value()) {
            all &= part.contains(words);
            for (int at = part.indexOf(words); at >= 0; at = part.indexOf(words, at + 1)) {
                covered.set(at, at + words.length());
            }
        }
        return all;
    }

    private static void covers(String name, String part, String tests) {
        BitSet covered = new BitSet();
        Matcher signature = Pattern.compile("^`[^`]*`: |==== I+\\.|```(text)?").matcher(part);
        while (signature.find()) {
            covered.set(signature.start(), signature.end());
        }
        for (Class<?> c : TESTS) {
            for (Method m : Edges.testsOf(c)) {
                if (m.getName().matches(tests)) {
                    mark(part, m, covered);
                }
            }
        }
        StringBuilder left = new StringBuilder();
        for (int at = 0; at < part.length(); at++) {
            left.append(covered.get(at) ? '\n' : part.charAt(at));
        }
        for (String piece : left.toString().split("\n+")) {
            if (piece.matches(".*\\w.*")) {
                fail(name + ": no test names the words '" + piece.trim() + "'");
            }
        }
    }

    public static void main(String[] args) throws IOException {
        String doc = Edges.document();
        if (doc.isEmpty()) {
            System.out.println("the document is not here, so nothing is looked up in it");
            return;
        }
        int tests = 0;
        for (Class<?> c : TESTS) {
            for (Method m : Edges.testsOf(c)) {
                tests++;
                if (!mark(doc, m, new BitSet())) {
                    fail(m.getName() + " names words that the document has not");
                }
            }
        }
        Matcher promise = Pattern.compile("## Promise (\\d+): [\\w ]+? (`.*?)(?= ## )").matcher(doc);
        int promises = 0;
        while (promise.find()) {
            promises++;
            covers("promise " + promise.group(1), promise.group(2), String.format("p%02d_.*", Integer.parseInt(promise.group(1))));
        }
        if (promises != 31) {
            fail("the document has " + promises + " promises");
        }
        Matcher terms = Pattern.compile("## Terms (.*?) ## Promise 1:").matcher(doc);
        if (terms.find()) {
            covers("terms", terms.group(1), ".*");
        }
        System.out.println(tests + " tests name sentences of " + promises + " promises, " + wrong + " things are wrong");
        if (wrong != 0) {
            System.exit(1);
        }
    }
}
