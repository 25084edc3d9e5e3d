import java.io.IOException;
import java.lang.reflect.Constructor;
import java.lang.reflect.Field;
import java.lang.reflect.Method;
import java.lang.reflect.Modifier;
import java.nio.file.Files;
import java.nio.file.Path;
import java.util.ArrayList;
import java.util.List;
import java.util.Set;
import java.util.TreeSet;
import java.util.regex.Matcher;
import java.util.regex.Pattern;

/** The face of the class, those rules of LANGUAGE.md that can be seen in its text, and what its calls make. */
public final class LanguageTest {
    private static final Set<String> FACE = Set.of("feed", "end", "house", "rule", "room", "way", "person", "go", "tick", "ahead",
            "soonest", "still", "downs", "errand", "best", "meeting", "trip", "trips", "brought", "rider", "rides", "customer", "order",
            "beds", "upward", "seed", "drawn", "count", "image", "back");
    private static int wrong;

    private LanguageTest() {
    }

    private static void must(boolean holds, String what) {
        if (!holds) {
            wrong++;
            System.out.println("not so: " + what);
        }
    }

    private static void face() {
        Set<String> open = new TreeSet<>();
        for (Method m : DownOnly.class.getDeclaredMethods()) {
            if (!Modifier.isPrivate(m.getModifiers())) {
                open.add(m.getName());
                must(Modifier.isPublic(m.getModifiers()), m + " is public");
            } else {
                must(!FACE.contains(m.getName()), "no private method bears the name of a public one: " + m);
            }
            must(m.getParameterCount() <= 7, m + " takes at most seven parameters");
        }
        must(open.equals(new TreeSet<>(FACE)), "the public methods are those of the document: " + open);
        for (Field f : DownOnly.class.getDeclaredFields()) {
            must(Modifier.isPrivate(f.getModifiers()) || f.getName().equals("NONE"), f + " is private");
        }
        Constructor<?>[] made = DownOnly.class.getDeclaredConstructors();
        must(made.length == 1 && Modifier.isPublic(made[0].getModifiers()), "one public constructor");
        must(Modifier.isFinal(DownOnly.class.getModifiers()), "the class is final");
        must(DownOnly.class.getDeclaredClasses().length < 13, "some twelve classes");
        for (Class<?> c : DownOnly.class.getDeclaredClasses()) {
            must(Modifier.isStatic(c.getModifiers()), c + " is static");
            long fields = List.of(c.getDeclaredFields()).stream().filter(f -> !Modifier.isStatic(f.getModifiers())).count();
            must(fields <= 20, c + " has some twenty fields");
            for (Method m : c.getDeclaredMethods()) {
                must(!FACE.contains(m.getName()), "a method inside bears the name of a public one: " + m);
                must(m.getParameterCount() <= 7, m + " takes at most seven parameters");
            }
        }
    }

    private static void text() throws IOException {
        String source = Files.readString(Path.of("src/main/java/DownOnly.java"));
        String code = source.replaceAll("(?s)/\\*.*?\\*/", "").replaceAll("//[^\n]*", "").replaceAll("\"[^\"]*\"", "\"\"");
        for (String word : new String[] {"throw", "throws", "try", "catch", "synchronized", "assert", "package", "yield", "hashCode",
            "toString", "random", "System.out", "System.err", "Thread", "Object", "HashMap", "double", "float"}) {
            must(!Pattern.compile("\\b" + Pattern.quote(word) + "\\b").matcher(code).find(), "the text is without " + word);
        }
        must(!code.contains("->") && !code.contains("::"), "no lambda, no method reference");
        must(!code.contains("Exact("), "no function that throws");
        must(!Pattern.compile("static\\s*\\{").matcher(code).find(), "no static block");
        Matcher imports = Pattern.compile("import ([^;]*);").matcher(code);
        while (imports.find()) {
            must(imports.group(1).equals("java.util.Arrays"), "the import " + imports.group(1));
        }
        must(source.chars().allMatch(c -> c == '\n' || c >= 32 && c < 127), "plain signs alone");
        lengths(code);
    }

    private static void lengths(String code) {
        String[] lines = code.split("\n");
        int start = -1;
        String indent = "";
        for (int k = 0; k < lines.length; k++) {
            Matcher m = Pattern.compile("^( {4}| {8})[^ }@*].*\\) \\{$").matcher(lines[k]);
            if (start < 0 && m.find() && !lines[k].contains(" class ")) {
                start = k;
                indent = m.group(1);
            } else if (start >= 0 && lines[k].equals(indent + "}")) {
                must(k - start <= 60, "short enough: " + lines[start].trim());
                start = -1;
            }
        }
    }

    private static long made() {
        return ((com.sun.management.ThreadMXBean) java.lang.management.ManagementFactory.getThreadMXBean())
                .getThreadAllocatedBytes(Thread.currentThread().getId());
    }

    /** All calls of a run live in one room, so hardly a call may make anything. */
    private static void room() {
        List<Runnable> calls = new ArrayList<>();
        DownOnly x = new DownOnly();
        Texts.house(x, "room3;room3;room2;room1;room0;passage0 1 2;flight1 2 3;flight2 3 4;flight3 4 5;flight0 4 9;door4 99 300;"
                + "hoist5 2 9;" + "person0;person1;person2;person3;person4;person0;person1;person2");
        Texts.rule(x, "take 0 if now*3/2<room+here and[not top=1 or home=0];ride if rode=0;take 1;take 2;take 3;take 4");
        for (int k = 0; k < 10; k++) {
            x.errand(k % 5, 30 * k, 30 * k + 400, 10 + k);
        }
        for (int k = 0; k < 12; k++) {
            x.trip(k % 3, k, 4);
        }
        for (int k = 0; k < 20; k++) {
            x.rider(7 * k);
            x.customer(k % 6, k * k % 5);
        }
        calls.add(() -> x.best(0, 0, true, 0));
        calls.add(() -> x.drawn(0, 20, 0));
        calls.add(() -> x.ahead(0, 0));
        calls.add(() -> x.brought(0, 0, 4));
        calls.add(() -> x.trips(3, 2));
        calls.add(() -> x.rides(20));
        calls.add(() -> x.order(6, 5));
        calls.add(() -> x.meeting(0, 0, 1, 0, true, 0));
        calls.add(() -> x.beds());
        calls.add(() -> x.upward(0));
        calls.add(() -> x.downs(0, 4, 2));
        calls.add(() -> x.image(2));
        calls.add(() -> x.back(2));
        calls.add(() -> x.rule());
        calls.add(() -> x.house());
        calls.add(() -> x.feed(1, 2, 3, 4, 5));
        for (int k = 0; k < calls.size(); k++) {
            Runnable call = calls.get(k);
            call.run();
            // asking what was made makes something itself
            long asking = -made() + made();
            long before = made();
            for (int n = 0; n < 16; n++) {
                call.run();
            }
            long more = made() - before - asking;
            must(more <= 16 * 40, "call " + k + " makes hardly anything: " + more + " bytes");
        }
        long before = made();
        DownOnly fresh = new DownOnly();
        long more = made() - before;
        must(more < 12000 && fresh.count(0) == 0, "a new object is small: " + more + " bytes");
    }

    public static void main(String[] args) throws IOException {
        face();
        text();
        room();
        System.out.println(wrong == 0 ? "the class keeps to its language" : wrong + " things are not so");
        if (wrong != 0) {
            System.exit(1);
        }
    }
}
