import java.io.IOException;
import java.lang.reflect.Method;
import java.lang.reflect.Modifier;
import java.nio.file.Files;
import java.nio.file.Path;
import java.util.List;

/** The example of README.md: it is the one below, line for line, and its answers are those that it tells. */
public final class ReadmeTest {
    private static final Path README = Path.of("README.md");
    private static final Path SOURCE = Path.of("src/test/java/ReadmeTest.java");

    public static void main(String[] args) throws IOException {
        Checks c = new Checks();
        example(c);
        List<String> readme = Files.readAllLines(README);
        String told = String.join("\n", block(readme, "```java", "```"));
        String made = String.join("\n", block(Files.readAllLines(SOURCE), "        // README", "        // END"));
        c.due("the lines of the example", made.stripIndent(), () -> told);
        for (Method m : IntervalTree.class.getDeclaredMethods()) {
            if (Modifier.isPublic(m.getModifiers())) {
                String call = "`" + m.getName() + "(";
                c.due("README.md names " + m.getName(), true, () -> readme.stream().anyMatch(l -> l.contains(call)));
            }
        }
        c.end();
    }

    private static List<String> block(List<String> lines, String before, String after) {
        int from = lines.indexOf(before) + 1;
        int to = from;
        while (to < lines.size() && !lines.get(to).equals(after)) {
            to++;
        }
        return lines.subList(from, to);
    }

    private static void example(Checks c) {
        // README
        IntervalTree tree = new IntervalTree();
        int a = tree.insert(1, 5, 10);          // low end, high end, weight; the answer is the id, 0
        int b = tree.insert(3, 4, 20);          // 1
        int d = tree.insert(6, 6, 15);          // 2
        int count = tree.stabCount(4);          // 2: a and b contain the point 4
        int heavy = tree.heaviest(4, 0);        // 1: the heavier one of them is b
        int best = tree.scheduleWeight();       // 35: b and d do not overlap

        for (char letter : "w>9&!n=0".toCharArray()) {
            tree.feed(letter);
        }
        int filter = tree.parseFilter();        // 3; with an error it would be -100 minus the error position
        int matches = tree.matchCount(filter);  // 2: a and b weigh more than 9 and are more than a point

        int sum = 0;
        tree.open(0, filter);                   // cursor 0
        while (tree.hasNext(0)) {
            sum += tree.weight(tree.next(0));   // 10, then 20
        }

        tree.save();
        tree.remove(b);                         // b stays in the tree, marked, until the next rebuild
        int marked = tree.state(b);             // 1
        tree.rebuild();
        int gone = tree.state(b);               // 2
        tree.load();
        int back = tree.state(b);               // 0
        // END
        int total = sum;
        c.due("ids", "0 1 2", () -> a + " " + b + " " + d);
        c.due("count", 2, () -> count);
        c.due("heavy", 1, () -> heavy);
        c.due("best", 35, () -> best);
        c.due("filter", 3, () -> filter);
        c.due("matches", 2, () -> matches);
        c.due("sum", 30, () -> total);
        c.due("states", "1 2 0", () -> marked + " " + gone + " " + back);
    }
}
