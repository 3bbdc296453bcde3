import java.lang.reflect.Method;
import java.lang.reflect.Modifier;
import java.net.URL;
import java.net.URLClassLoader;
import java.nio.file.Files;
import java.nio.file.Path;
import java.util.ArrayList;
import java.util.List;
import java.util.regex.Matcher;
import java.util.regex.Pattern;
import javax.tools.ToolProvider;

/** README.md tells how the class is used: every call of its example answers what stands behind it there. */
public final class ReadmeTest {
    private static final Pattern CALL = Pattern.compile("(town\\.\\w+\\(.*\\)); +// (-?[0-9]+)(:.*)?");
    private static final String NEW = "YoungBuyers town = new YoungBuyers();";

    public static void main(String[] args) throws Exception {
        Check c = new Check();
        List<String> lines = Files.readAllLines(Path.of("README.md"));
        example(c, lines);
        everyCallIsNamed(c, lines);
        c.end();
    }

    private static void example(Check c, List<String> lines) throws Exception {
        int first = lines.indexOf("```java");
        c.isTrue("README.md has an example", first >= 0 && lines.get(first + 1).equals(NEW));
        List<String> calls = new ArrayList<>();
        List<Long> due = new ArrayList<>();
        for (int i = first + 2; i < lines.size() && !lines.get(i).equals("```"); i++) {
            Matcher m = CALL.matcher(lines.get(i));
            if (m.matches()) {
                calls.add(m.group(1));
                due.add(Long.parseLong(m.group(2)));
            } else {
                c.isTrue("a call with its answer: " + lines.get(i), false);
            }
        }
        long[] got = answers(calls);
        for (int i = 0; i < got.length; i++) {
            c.due(calls.get(i), got[i], due.get(i));
        }
    }

    private static long[] answers(List<String> calls) throws Exception {
        String code = "public final class Example {\n    public static long[] answers() {\n        " + NEW
                + "\n        return new long[] {\n" + String.join(",\n", calls) + "};\n    }\n}\n";
        Path dir = Files.createDirectories(Path.of("build", "readme"));
        Path file = Files.writeString(dir.resolve("Example.java"), code);
        ToolProvider.getSystemJavaCompiler().run(null, null, null, "-cp", System.getProperty("java.class.path"), "-d",
                dir.toString(), file.toString());
        try (URLClassLoader loader = new URLClassLoader(new URL[] {dir.toUri().toURL()})) {
            return (long[]) loader.loadClass("Example").getMethod("answers").invoke(null);
        }
    }

    private static void everyCallIsNamed(Check c, List<String> lines) {
        String all = String.join("\n", lines);
        for (Method m : YoungBuyers.class.getDeclaredMethods()) {
            boolean open = Modifier.isPublic(m.getModifiers());
            c.isTrue("README.md names " + m.getName(), !open || all.contains("`" + m.getName() + "`"));
        }
    }
}
