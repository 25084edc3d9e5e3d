import java.io.IOException;
import java.lang.annotation.ElementType;
import java.lang.annotation.Retention;
import java.lang.annotation.RetentionPolicy;
import java.lang.annotation.Target;
import java.lang.reflect.InvocationTargetException;
import java.lang.reflect.Method;
import java.lang.reflect.Modifier;
import java.nio.file.Files;
import java.nio.file.Path;
import java.util.ArrayList;
import java.util.Comparator;
import java.util.List;

/**
 * What the tests of boundary sentences share. Each test is a method p, the promise's number, and the
 * sentence in short; Says has the document's own words for it.
 */
final class Edges {
    static final int LEAST = Integer.MIN_VALUE;
    static final int MOST = Integer.MAX_VALUE;
    static final int NONE = -1;
    /** Numbers that are no ROOM, WAY, RULE or the like in any HOUSE. */
    static final int[] NEVER = {-1, -2, 1000, LEAST, MOST};
    static final int[] NO_MINUTES = {-1, -2, 1440, 1441, LEAST, MOST};

    private static final Path DOC = Path.of("../shared/DOC.md");
    private static String test = "";
    private static int asked;
    private static int wrong;

    private Edges() {
    }

    @Retention(RetentionPolicy.RUNTIME)
    @Target(ElementType.METHOD)
    @interface Says {
        String[] value();
    }

    // ---- running --------------------------------------------------------------------------------

    static List<Method> testsOf(Class<?> tests) {
        List<Method> list = new ArrayList<>();
        for (Method m : tests.getDeclaredMethods()) {
            if (Modifier.isStatic(m.getModifiers()) && m.getName().matches("p\\d\\d_\\w+")) {
                list.add(m);
            }
        }
        list.sort(Comparator.comparing(Method::getName));
        return list;
    }

    static void run(Class<?> tests) {
        List<Method> list = testsOf(tests);
        for (Method m : list) {
            Says says = m.getAnnotation(Says.class);
            test = m.getName() + (says == null ? "" : " \"" + String.join(" .. ", says.value()) + "\"");
            int before = asked;
            try {
                m.setAccessible(true);
                m.invoke(null);
            } catch (InvocationTargetException | IllegalAccessException e) {
                fail("threw " + e.getCause());
            }
            if (says == null || asked == before) {
                fail("is no test: it names no sentence, or asks nothing");
            }
        }
        System.out.println(list.size() + " sentences, " + asked + " answers, " + wrong + " wrong");
        if (wrong != 0 || list.isEmpty()) {
            System.exit(1);
        }
    }

    /** The document in one line; empty if it is not there. */
    static String document() throws IOException {
        return Files.exists(DOC) ? oneLine(Files.readString(DOC)) : "";
    }

    static String oneLine(String text) {
        return text.replaceAll("\\s+", " ");
    }

    private static void fail(String what) {
        wrong++;
        System.out.println(test + ": " + what);
    }

    // ---- asking ---------------------------------------------------------------------------------

    static void due(int got, int want) {
        asked++;
        if (got != want) {
            fail("line " + line() + " answered " + got + ", due is " + want);
        }
    }

    static void due(boolean got, boolean want) {
        asked++;
        if (got != want) {
            fail("line " + line() + " answered " + got + ", due is " + want);
        }
    }

    private static int line() {
        return StackWalker.getInstance().walk(s -> s.filter(f -> f.getMethodName().matches("p\\d\\d_\\w+"))
                .findFirst().map(StackWalker.StackFrame::getLineNumber).orElse(0));
    }

    /** A new object with a HOUSE (none if its text is empty) and RULES. */
    static DownOnly told(String house, String... rules) {
        DownOnly x = new DownOnly();
        if (!house.isEmpty() && Texts.house(x, house) < 1) {
            fail("line " + line() + " has no HOUSE: " + house);
        }
        for (String rule : rules) {
            if (Texts.rule(x, rule) < 0) {
                fail("line " + line() + " has no RULE: " + rule);
            }
        }
        return x;
    }

    static int fault(int place, int kind) {
        return -2 - (1 + 8 * place + kind);
    }

    /** The text has a ^ ahead of the byte at which the FAULT is due. */
    static void houseFault(String marked, int kind) {
        String text = marked.replace("^", "");
        due(Texts.house(new DownOnly(), text), fault(marked.indexOf('^'), kind));
    }

    static void ruleFault(String marked, int kind) {
        String text = marked.replace("^", "");
        due(Texts.rule(new DownOnly(), text), fault(marked.indexOf('^'), kind));
    }

    static void houseIs(String text, int rooms) {
        due(Texts.house(new DownOnly(), text), rooms);
    }

    static void ruleIs(String text) {
        due(Texts.rule(new DownOnly(), text), 0);
    }

    /** A text so many times, with another one between. */
    static String times(String text, int n, String between) {
        return String.join(between, java.util.Collections.nCopies(n, text));
    }

    /** All that can be asked of a small HOUSE and of the lists without changing anything. */
    static List<Integer> all(DownOnly x) {
        List<Integer> list = new ArrayList<>();
        for (int what = 0; what <= 13; what++) {
            list.add(x.count(what));
        }
        for (int k = 0; k < x.count(0); k++) {
            list.addAll(List.of(x.room(k, 0), x.room(k, 1), x.room(k, 2)));
        }
        for (int k = 0; k < x.count(1); k++) {
            list.addAll(List.of(x.way(k, 0), x.way(k, 1), x.way(k, 2), x.way(k, 3), x.way(k, 4), x.way(k, 5)));
        }
        for (int k = 0; k < x.count(2); k++) {
            list.addAll(List.of(x.person(k, 0), x.person(k, 1), x.person(k, 2), x.person(k, 3), x.person(k, 4)));
        }
        for (int k = 0; k < x.count(6); k++) {
            list.addAll(List.of(x.trips(k, -1), x.trips(k, 0), x.trips(k, 1), x.trips(k, 2)));
        }
        for (int k = 0; k < x.count(7); k++) {
            list.add(x.rides(k));
        }
        for (int what = 0; what <= 6; what++) {
            list.add(x.order(6, what));
        }
        list.addAll(List.of(x.best(0, 0, true, 0), x.best(0, 0, true, 1), x.best(0, 0, true, 2), x.beds()));
        return list;
    }

    interface Call {
        int on(DownOnly x);
    }

    /** A call is refused by this answer, and nothing happens. */
    static void refused(DownOnly x, Call call, int answer) {
        List<Integer> before = all(x);
        due(call.on(x), answer);
        List<Integer> behind = all(x);
        asked++;
        if (!before.equals(behind)) {
            fail("line " + line() + " changed something: " + before + " became " + behind);
        }
    }

    static int asInt(boolean b) {
        return b ? 1 : 0;
    }
}
