import java.io.IOException;
import java.lang.reflect.Method;
import java.net.URL;
import java.net.URLClassLoader;
import java.nio.file.Files;
import java.nio.file.Path;
import java.util.Comparator;
import java.util.regex.Matcher;
import java.util.regex.Pattern;
import java.util.stream.Stream;
import javax.tools.ToolProvider;

/** README.md: its frames of Java are one program, whose calls answer what stands behind them. */
public final class ReadmeTest {
    private static final Pattern FRAME = Pattern.compile("(?s)```java\n(.*?)```");
    private static final Pattern ASKED = Pattern.compile("^(x\\..*\\));\\s*// (true|false|-?\\d+)\\b.*$");
    private static int asked;
    private static int wrong;

    private ReadmeTest() {
    }

    /** Called by the program that is made of the page. */
    public static void due(String call, Object got, Object want) {
        asked++;
        if (!got.equals(want)) {
            wrong++;
            System.out.println("README.md: " + call + " answered " + got + ", it tells " + want);
        }
    }

    private static String program(String page) {
        StringBuilder body = new StringBuilder();
        StringBuilder helpers = new StringBuilder();
        Matcher frame = FRAME.matcher(page);
        while (frame.find()) {
            boolean helper = frame.group(1).startsWith("static ");
            for (String line : frame.group(1).split("\n")) {
                Matcher call = ASKED.matcher(line);
                if (line.startsWith("x.") && !call.matches()) {
                    wrong++;
                    System.out.println("README.md tells no answer: " + line);
                }
                String code = call.matches()
                        ? "ReadmeTest.due(\"" + call.group(1) + "\", " + call.group(1) + ", " + call.group(2) + ");" : line;
                (helper ? helpers : body).append(code).append('\n');
            }
        }
        return "public class Page {\n" + helpers + "public static void run() {\n" + body + "}\n}\n";
    }

    private static void runProgram(String program, Path dir) throws IOException, ReflectiveOperationException {
        Path file = dir.resolve("Page.java");
        Files.writeString(file, program);
        int failed = ToolProvider.getSystemJavaCompiler().run(null, null, null, "-proc:none", "-d", dir.toString(),
                "-cp", System.getProperty("java.class.path"), file.toString());
        if (failed != 0) {
            wrong++;
            return;
        }
        try (URLClassLoader loader = new URLClassLoader(new URL[] {dir.toUri().toURL()})) {
            loader.loadClass("Page").getMethod("run").invoke(null);
        }
    }

    private static void remove(Path dir) throws IOException {
        try (Stream<Path> files = Files.walk(dir)) {
            for (Path p : files.sorted(Comparator.reverseOrder()).toList()) {
                Files.delete(p);
            }
        }
    }

    private static void everyCallIsTold(String page, String program) {
        for (Method m : DownOnly.class.getDeclaredMethods()) {
            boolean open = java.lang.reflect.Modifier.isPublic(m.getModifiers());
            if (open && !(page.contains("| `" + m.getName() + "(") && program.contains("x." + m.getName() + "("))) {
                wrong++;
                System.out.println("README.md does not tell " + m.getName());
            }
        }
    }

    public static void main(String[] args) throws IOException, ReflectiveOperationException {
        String page = Files.readString(Path.of("README.md"));
        String program = program(page);
        everyCallIsTold(page, program);
        Path dir = Files.createTempDirectory("readme");
        try {
            runProgram(program, dir);
        } finally {
            remove(dir);
        }
        System.out.println(asked + " answers of README.md, " + wrong + " wrong");
        if (wrong != 0 || asked == 0) {
            System.exit(1);
        }
    }
}
