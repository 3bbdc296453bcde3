import java.lang.reflect.Executable;
import java.lang.reflect.Field;
import java.lang.reflect.Modifier;
import java.nio.file.Files;
import java.nio.file.Path;
import java.util.ArrayList;
import java.util.List;
import java.util.Set;
import java.util.regex.Matcher;
import java.util.regex.Pattern;

/** What of LANGUAGE.md can be seen in the source and in the class itself; each check is named by the rule's number. */
public final class LanguageTest {
    private static final Pattern ASIDE = Pattern.compile("/\\*.*?\\*/|//[^\n]*", Pattern.DOTALL);
    private static final Pattern METHOD = Pattern.compile("^( {4}| {8})(?:[\\w\\[\\]]+ )*\\w+\\([^\n]*\\)[^\n;]*\\{$",
            Pattern.MULTILINE);
    private static final Set<String> CONSTANTS = Set.of("int", "long", "boolean", "char", "class java.lang.String",
            "class [I", "class [J", "class [C", "class [B");
    /** What the rules leave out, and some that they allow but this class has no need of. */
    private static final String[] NEVER = {"->", "::", "\\w+Exact\\(", "\\bsynchronized\\b",
        "\\bassert\\b", "\\bfinally\\b", "\\bcatch\\b", "\\btry\\b", "\\bpackage\\b", "\\bprotected\\b",
        "\\bThread\\b", "\\bRandom\\b", "\\bhashCode\\b", "\\btoString\\b", "\\bgetMessage\\b", "\\bdouble\\b",
        "\\bfloat\\b", "\\bstatic \\{", "System\\.(?!arraycopy\\()", "Arrays\\.(?!(copyOf|copyOfRange|fill)\\()",
        "Math\\.(?!(max|min|abs|floorDiv|floorMod)\\()", "Integer\\.(?!bitCount\\()", "while \\(true\\)", "for \\(;;"};

    public static void main(String[] args) throws Exception {
        Check c = new Check();
        String source = Files.readString(Path.of("src/main/java/YoungBuyers.java"));
        String code = ASIDE.matcher(source).replaceAll("");
        words(c, code);
        exceptions(c, code);
        lengths(c, source);
        List<Class<?>> all = new ArrayList<>(List.of(YoungBuyers.class.getDeclaredClasses()));
        all.add(YoungBuyers.class);
        for (Class<?> type : all) {
            members(c, type);
        }
        c.isTrue("rule 11: at most twelve classes", all.size() <= 12);
        c.end();
    }

    private static void words(Check c, String code) {
        for (String word : NEVER) {
            Matcher m = Pattern.compile(word).matcher(code);
            c.due("rules 2 to 10: " + word, m.find() ? m.group() : "", "");
        }
        Matcher imports = Pattern.compile("import ([^;]+);").matcher(code);
        while (imports.find()) {
            c.due("rule 4: import", imports.group(1), "java.util.Arrays");
        }
        c.isTrue("rule 4: signs 1 to 127", code.chars().allMatch(sign -> sign > 0 && sign < 128));
    }

    /** Rule 6: only back throws, and what the document names. */
    private static void exceptions(Check c, String code) {
        Matcher thrown = Pattern.compile("throw ([^(]*)\\(\"[^\"]*\"\\);").matcher(code);
        StringBuilder found = new StringBuilder();
        while (thrown.find()) {
            found.append(thrown.group(1)).append(' ');
        }
        c.due("rule 6: thrown", found.toString(), "new IllegalStateException new IllegalArgumentException ");
        c.due("rule 6: throw", code.split("\\bthrow\\b", -1).length - 1, 2);
    }

    /** Rule 11: methods stay short, some sixty lines. */
    private static void lengths(Check c, String source) {
        Matcher m = METHOD.matcher(source);
        int found = 0;
        while (m.find()) {
            int end = source.indexOf("\n" + m.group(1) + "}\n", m.end());
            long lines = source.substring(m.start(), Math.max(m.end(), end)).lines().count() + 1;
            c.isTrue("rule 11: " + m.group().strip() + " has " + lines + " lines", end > 0 && lines <= 60);
            found++;
        }
        c.isTrue("rule 11: methods are found: " + found, found > 100);
    }

    private static void members(Check c, Class<?> type) {
        int fields = 0;
        for (Field f : type.getDeclaredFields()) {
            boolean constant = Modifier.isStatic(f.getModifiers());
            fields += constant ? 0 : 1;
            c.isTrue("rule 5: " + f, !constant
                    || Modifier.isFinal(f.getModifiers()) && CONSTANTS.contains(f.getType().toString()));
        }
        c.isTrue("rule 11: " + type + " has " + fields + " fields", fields <= 20);
        List<Executable> all = new ArrayList<>(List.of(type.getDeclaredMethods()));
        all.addAll(List.of(type.getDeclaredConstructors()));
        for (Executable m : all) {
            c.isTrue("rule 11: " + m, m.getParameterCount() <= 7);
        }
    }
}
