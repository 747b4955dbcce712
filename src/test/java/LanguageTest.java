import java.io.IOException;
import java.lang.reflect.Field;
import java.lang.reflect.Method;
import java.lang.reflect.Modifier;
import java.nio.file.Files;
import java.nio.file.Path;
import java.util.Arrays;
import java.util.List;
import java.util.Set;
import java.util.TreeSet;
import java.util.regex.Matcher;
import java.util.regex.Pattern;
import java.util.stream.Collectors;

/** Rules of ../shared/LANGUAGE.md that can be seen from the source of the class and from its compiled classes. */
public final class LanguageTest {
    private static final Path SOURCE = Path.of("src/main/java/IntervalTree.java");
    private static final Checks c = new Checks();

    public static void main(String[] args) throws IOException {
        List<String> lines = Files.readAllLines(SOURCE);
        String code = withoutCommentsAndTexts(String.join("\n", lines));
        words(code);
        exceptions(code);
        lengths(lines);
        Class<?>[] inside = IntervalTree.class.getDeclaredClasses();
        c.due("some twelve classes at most", true, () -> inside.length <= 12);
        members(IntervalTree.class);
        for (Class<?> each : inside) {
            c.due(each + " is static and not public", true, () -> Modifier.isStatic(each.getModifiers())
                    && !Modifier.isPublic(each.getModifiers()) && !Modifier.isProtected(each.getModifiers()));
            c.due(each + " has no classes inside", 0, () -> each.getDeclaredClasses().length);
            members(each);
        }
        c.end();
    }

    private static String withoutCommentsAndTexts(String source) {
        return source.replaceAll("(?s)/\\*.*?\\*/", "").replaceAll("//[^\n]*", "")
                .replaceAll("\"[^\"\n]*\"", "\"\"").replaceAll("'[^'\n]+'", "'x'");
    }

    /** Rules 2, 4, 6 and 13: what the class may not contain, and the only import that it needs. */
    private static void words(String code) {
        String[] forbidden = {"->", "::", "static {", "@"};
        for (String f : forbidden) {
            c.due("the source contains " + f, false, () -> code.contains(f));
        }
        String[] forbiddenWords = {"package", "synchronized", "assert", "finally", "equals", "hashCode", "toString",
            "Object", "Thread", "Random", "System", "\\w+Exact", "native", "volatile", "transient", "protected"};
        for (String f : forbiddenWords) {
            c.due("the source contains the word " + f, false, () -> Pattern.compile("\\b" + f + "\\b").matcher(code)
                    .find());
        }
        c.due("the imports", List.of("import java.util.NoSuchElementException;"),
                () -> code.lines().filter(l -> l.startsWith("import")).collect(Collectors.toList()));
    }

    /** Rule 6: throw new E("a written text") alone, and nothing is caught. */
    private static void exceptions(String code) {
        Set<String> thrown = new TreeSet<>();
        Matcher m = Pattern.compile("\\bthrow\\b(?! new \\w+\\(\"\"\\);)").matcher(code);
        c.due("another form of throw", false, m::find);
        Matcher n = Pattern.compile("\\bthrow new (\\w+)").matcher(code);
        while (n.find()) {
            thrown.add(n.group(1));
        }
        c.due("what is thrown", new TreeSet<>(List.of("IllegalArgumentException", "IllegalStateException",
                "IndexOutOfBoundsException", "NoSuchElementException")), () -> thrown);
        c.due("something is caught", false, () -> Pattern.compile("\\b(try|catch)\\b").matcher(code).find());
    }

    /** Rule 11: methods stay short. A method begins where a line of its depth opens a brace behind a bracket. */
    private static void lengths(List<String> lines) {
        for (int i = 0; i < lines.size(); i++) {
            Matcher head = Pattern.compile("^( {4}| {8})[A-Za-z].*\\).*\\{$").matcher(lines.get(i));
            if (head.find() && !lines.get(i).matches(" *(if|for|while|switch|else).*")) {
                String end = head.group(1) + "}";
                int from = i;
                while (i < lines.size() && !lines.get(i).equals(end)) {
                    i++;
                }
                int length = i - from + 1;
                c.due("a short method: " + lines.get(from).strip(), true, () -> length <= 60);
            }
        }
    }

    /** Rules 1, 5 and 11. */
    private static void members(Class<?> owner) {
        Set<String> face = Arrays.stream(IntervalTree.class.getDeclaredMethods())
                .filter(m -> Modifier.isPublic(m.getModifiers())).map(Method::getName).collect(Collectors.toSet());
        for (Method m : owner.getDeclaredMethods()) {
            boolean open = owner == IntervalTree.class && Modifier.isPublic(m.getModifiers());
            c.due(owner + "." + m.getName() + " bears a public name", open, () -> face.contains(m.getName()));
            c.due(owner + "." + m.getName() + " has at most seven parameters", true, () -> m.getParameterCount() <= 7);
            c.due(owner + "." + m.getName() + " was made by the compiler", false, m::isSynthetic);
        }
        int own = 0;
        for (Field f : owner.getDeclaredFields()) {
            boolean shared = Modifier.isStatic(f.getModifiers());
            own += shared ? 0 : 1;
            c.due(owner + "." + f.getName() + " is a final constant if it is static", true,
                    () -> !shared || Modifier.isFinal(f.getModifiers()) && f.getType() == int.class);
        }
        int fields = own;
        c.due(owner + " has at most some twenty fields", true, () -> fields <= 20);
    }
}
