import java.lang.reflect.InvocationTargetException;
import java.lang.reflect.Method;
import java.util.ArrayList;
import java.util.Arrays;
import java.util.Comparator;
import java.util.List;
import java.util.Random;

/** Runs of 512 calls, chosen by fixed seeds, that the class and the model must answer alike. */
public final class RandomRunsTest {
    private static final int CALLS = 512;
    private static final String[] LOOKS = {"digest", "size", "nodeCount", "rebuildCount", "rebuiltNodes", "height"};

    // A run may favour calls that mean most when they come close together.
    private static final String[][] FAVOURITES = {
        {},
        {"open", "hasNext", "next", "next", "next", "removeCurrent", "removeCurrent", "restore", "insert", "remove"},
        {"save", "load", "insert", "remove", "restore", "rebuild", "setRebuildPercentage", "digest", "next", "open"},
        {"remove", "restore", "insert", "addWeight", "scheduled", "piercingPoint", "deepestPoint", "covered"},
        {"addRangeFilter", "addHeavierFilter", "addCombinedFilter", "accepts", "matchCount", "addWeight", "remove"},
        {"remove", "restore", "parent", "child", "isRed", "subtreeSize", "subtreeHigh", "subtreeWeight", "digest"},
    };

    private final Random random;
    private final IntervalTree tree = new IntervalTree();
    private final Model model = new Model();
    private final int span;
    private final boolean growing;
    private final String[] favourites;
    private final List<String> log = new ArrayList<>();
    private int insertions = 0;

    private RandomRunsTest(long seed) {
        random = new Random(seed);
        int[] spans = {3, 10, 40, 300, 1000};
        span = spans[random.nextInt(spans.length)];
        growing = random.nextInt(3) == 0;
        favourites = FAVOURITES[random.nextInt(FAVOURITES.length)];
    }

    private static Method[] face() {
        Method[] methods = Arrays.stream(IntervalTree.class.getDeclaredMethods())
                .filter(m -> java.lang.reflect.Modifier.isPublic(m.getModifiers())).toArray(Method[]::new);
        Arrays.sort(methods, Comparator.comparing(Method::getName));
        return methods;
    }

    private static String answer(Object x, Method m, Object[] args) {
        try {
            Method own = x.getClass().getMethod(m.getName(), m.getParameterTypes());
            return String.valueOf(own.invoke(x, args));
        } catch (InvocationTargetException e) {
            return "throws." + e.getCause().getClass().getSimpleName();
        } catch (ReflectiveOperationException e) {
            throw new IllegalStateException(e);
        }
    }

    private int end() {
        return random.nextInt(2 * span + 1) - span;
    }

    private int rarely(int usual, int... strange) {
        return random.nextInt(25) == 0 ? strange[random.nextInt(strange.length)] : usual;
    }

    private int id() {
        return rarely(random.nextInt(insertions + 1), -1, 499, 500, Integer.MIN_VALUE, Integer.MAX_VALUE);
    }

    private int anyPoint() {
        return rarely(end(), Integer.MIN_VALUE, Integer.MAX_VALUE, -1001, 1001, -2001, 2001, -2000, 2000);
    }

    private int filter() {
        return rarely(random.nextInt(8), -1, 8, Integer.MIN_VALUE);
    }

    private int cursor() {
        return rarely(random.nextInt(4), -1, 4);
    }

    private int number() {
        return rarely(random.nextInt(6), -1, 50, 99, 100, Integer.MAX_VALUE);
    }

    private Object[] arguments(String name) {
        int a = anyPoint();
        int b = anyPoint();
        int from = random.nextInt(20) == 0 ? a : Math.min(a, b);
        int to = Math.max(a, b);
        switch (name) {
            case "insert": {
                int low = end();
                int length = random.nextInt(3) == 0 ? 0 : random.nextInt(span);
                int high = Math.min(1000, low + length);
                return new Object[] {rarely(low, -1001, 1001, -1000), rarely(high, low - 1, 1001, 1000),
                    rarely(random.nextInt(random.nextBoolean() ? 4 : 1000), -1, 1000, 999)};
            }
            case "setRebuildPercentage":
                return new Object[] {rarely(10 + random.nextInt(91), 9, 101, 10, 100)};
            case "addWeight":
                return new Object[] {from, to, rarely(random.nextInt(9) - 4, -1001, 1001, -1000, 1000)};
            case "heaviest":
                return new Object[] {a, number()};
            case "heaviestOverlap":
                return new Object[] {from, to, number()};
            case "firstOverlap":
            case "covered":
                return new Object[] {from, to};
            case "stabCount": case "stabWeight": case "floor": case "ceiling": case "nearest":
                return new Object[] {a};
            case "select": case "scheduled": case "piercingPoint":
                return new Object[] {number()};
            case "child":
                return new Object[] {id(), random.nextBoolean()};
            case "addRangeFilter":
                return new Object[] {rarely(random.nextInt(4), -1, 4), from, to};
            case "addCombinedFilter":
                return new Object[] {rarely(random.nextInt(3), -1, 3), random.nextInt(5), random.nextInt(4)};
            case "feed":
                return new Object[] {rarely(letter(), -1, 256, 0, 255)};
            case "matchCount":
                return new Object[] {filter()};
            case "accepts":
                return new Object[] {filter(), id()};
            case "open":
                return new Object[] {cursor(), filter()};
            case "hasNext": case "next": case "removeCurrent":
                return new Object[] {cursor()};
            default:
                return new Object[] {id()};
        }
    }

    private int letter() {
        String letters = "lhwn<=>-0123456789#!()&|";
        return letters.charAt(random.nextInt(letters.length()));
    }

    private boolean alike(Method m, Object[] args) {
        String got = answer(tree, m, args);
        String want = answer(model, m, args);
        log.add(m.getName() + Arrays.toString(args) + " = " + got);
        if (m.getName().equals("insert") && !got.startsWith("throws")) {
            insertions++;
        }
        if (got.equals(want)) {
            return true;
        }
        for (int i = Math.max(0, log.size() - 12); i < log.size(); i++) {
            System.out.println("  " + log.get(i));
        }
        System.out.println(log.get(log.size() - 1) + ", due is " + want);
        return false;
    }

    private Method chosen(Method[] face) {
        if (favourites.length > 0 && random.nextInt(2) == 0) {
            return method(face, favourites[random.nextInt(favourites.length)]);
        }
        Method m = face[random.nextInt(face.length)];
        boolean dull = m.getName().equals("rebuild") || m.getName().equals("load") || m.getName().equals("save")
                || m.getName().startsWith("add") && m.getName().endsWith("Filter") || m.getName().equals("parseFilter");
        if (dull && random.nextInt(4) != 0) {
            return chosen(face);
        }
        int roll = random.nextInt(10);
        if (roll < (growing ? 5 : 2)) {
            return method(face, "insert");
        }
        return roll == 5 ? method(face, "remove") : m;
    }

    private static Method method(Method[] face, String name) {
        return Arrays.stream(face).filter(m -> m.getName().equals(name)).findFirst().orElseThrow();
    }

    private boolean feedText(Method[] face) {
        String text = FilterTexts.some(random);
        for (int i = 0; i < text.length(); i++) {
            if (!alike(method(face, "feed"), new Object[] {(int) text.charAt(i)})) {
                return false;
            }
        }
        return alike(method(face, "parseFilter"), new Object[0]);
    }

    private boolean run(Method[] face) {
        while (log.size() < CALLS - LOOKS.length) {
            if (random.nextInt(120) == 0 && !feedText(face)) {
                return false;
            }
            Method m = chosen(face);
            Object[] args = m.getParameterCount() == 0 ? new Object[0] : arguments(m.getName());
            if (!alike(m, args)) {
                return false;
            }
        }
        for (String look : LOOKS) {
            if (!alike(method(face, look), new Object[0])) {
                return false;
            }
        }
        return true;
    }

    public static void main(String[] args) {
        int runs = args.length > 0 ? Integer.parseInt(args[0]) : 400;
        Method[] face = face();
        int wrong = 0;
        for (int seed = 0; seed < runs; seed++) {
            if (!new RandomRunsTest(seed).run(face)) {
                System.out.println("in the run with seed " + seed);
                wrong++;
            }
        }
        System.out.println(runs + " runs, " + wrong + " with an answer not as due");
        if (wrong != 0) {
            System.exit(1);
        }
    }
}
