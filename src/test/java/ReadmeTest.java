import java.lang.reflect.Method;
import java.lang.reflect.Modifier;
import java.net.URL;
import java.net.URLClassLoader;
import java.nio.file.Files;
import java.nio.file.Path;
import java.util.ArrayList;
import java.util.Comparator;
import java.util.List;
import java.util.regex.Matcher;
import java.util.regex.Pattern;
import java.util.stream.Stream;
import javax.tools.JavaCompiler;
import javax.tools.ToolProvider;

/** README's examples are made a class and run: each answer behind a // is the one that is given. */
public final class ReadmeTest {
    private static final String PAGE = "README.md";
    private static final Pattern BLOCK = Pattern.compile("(?s)```java\n(.*?)```");
    private static final Pattern ASKED = Pattern.compile("(x\\..*\\));\\s+// (-?\\d+|true|false)\\b.*");

    public static void main(String[] args) throws Exception {
        String page = Files.readString(Path.of(PAGE));
        int passed = run(source(page));
        List<String> untold = untold(page);
        untold.forEach(name -> System.out.println(PAGE + " has no example of " + name));
        System.out.println(passed + " examples hold");
        if (passed == 0 || !untold.isEmpty()) {
            System.exit(1);
        }
    }

    /** The calls of the face that no example makes. */
    private static List<String> untold(String page) {
        List<String> untold = new ArrayList<>();
        for (Method method : TwoAsks.class.getDeclaredMethods()) {
            if (Modifier.isPublic(method.getModifiers()) && !page.contains("x." + method.getName() + "(")) {
                untold.add(method.getName());
            }
        }
        return untold;
    }

    /** Blocks that tell a function stand beside the one that all other blocks make. */
    private static String source(String page) {
        StringBuilder functions = new StringBuilder();
        StringBuilder calls = new StringBuilder();
        Matcher block = BLOCK.matcher(page);
        while (block.find()) {
            if (block.group(1).startsWith("static ")) {
                functions.append(block.group(1));
            } else {
                block.group(1).lines().forEach(line -> calls.append(checked(line)).append('\n'));
            }
        }
        return "public final class Examples {\n" + functions + "static int passed = 0; static int failed = 0;\n"
                + "static void due(String call, Object got, String due) {\n"
                + "if (got.toString().equals(due)) { passed++; } else { failed++;\n"
                + "System.out.println(call + \" answered \" + got + \", the page says \" + due); } }\n"
                + "public static int run() {\n" + calls + "return failed == 0 ? passed : 0; } }\n";
    }

    private static String checked(String line) {
        Matcher asked = ASKED.matcher(line);
        if (!asked.matches()) {
            // a call without its answer would pass unseen
            return line.startsWith("x.") ? "due(\"" + line + "\", \"\", \"no answer\");" : line;
        }
        return "due(\"" + asked.group(1) + "\", " + asked.group(1) + ", \"" + asked.group(2) + "\");";
    }

    /** How many examples hold; 0 if one does not. */
    private static int run(String source) throws Exception {
        Path folder = Files.createTempDirectory("readme");
        try {
            Path file = folder.resolve("Examples.java");
            Files.writeString(file, source);
            JavaCompiler compiler = ToolProvider.getSystemJavaCompiler();
            int compiled = compiler.run(null, null, null, "-proc:none", "-cp", System.getProperty("java.class.path"),
                    "-d", folder.toString(), file.toString());
            if (compiled != 0) {
                return 0;
            }
            try (URLClassLoader loader = new URLClassLoader(new URL[] {folder.toUri().toURL()})) {
                return (Integer) loader.loadClass("Examples").getMethod("run").invoke(null);
            }
        } finally {
            clear(folder);
        }
    }

    private static void clear(Path folder) throws Exception {
        try (Stream<Path> all = Files.walk(folder)) {
            for (Path one : all.sorted(Comparator.reverseOrder()).toList()) {
                Files.delete(one);
            }
        }
    }
}
