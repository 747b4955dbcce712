import java.lang.reflect.Constructor;
import java.lang.reflect.Field;
import java.lang.reflect.Method;
import java.lang.reflect.Modifier;
import java.util.Arrays;
import java.util.Set;
import java.util.TreeSet;
import java.util.stream.Collectors;

/** The public face is the document's, and nothing else of the class can be seen from outside. */
public final class FaceTest {
    private static final String[] FACE = {
        "int insert(int,int,int) IllegalArgumentException,IllegalStateException",
        "int remove(int) NoSuchElementException",
        "int restore(int) NoSuchElementException,IllegalStateException",
        "int rebuild() ",
        "int setRebuildPercentage(int) IllegalArgumentException",
        "int addWeight(int,int,int) IllegalArgumentException",
        "int size() ",
        "int nodeCount() ",
        "int height() ",
        "int rebuildCount() ",
        "int rebuiltNodes() ",
        "int state(int) NoSuchElementException",
        "int low(int) NoSuchElementException",
        "int high(int) NoSuchElementException",
        "int weight(int) NoSuchElementException",
        "int parent(int) NoSuchElementException",
        "int child(int,boolean) NoSuchElementException",
        "boolean isRed(int) NoSuchElementException",
        "int subtreeSize(int) NoSuchElementException",
        "int subtreeHigh(int) NoSuchElementException,IllegalStateException",
        "int subtreeWeight(int) NoSuchElementException,IllegalStateException",
        "int digest() ",
        "int stabCount(int) ",
        "int stabWeight(int) ",
        "int heaviest(int,int) IllegalArgumentException",
        "int heaviestOverlap(int,int,int) IllegalArgumentException",
        "int firstOverlap(int,int) IllegalArgumentException",
        "int floor(int) ",
        "int ceiling(int) ",
        "int rank(int) NoSuchElementException",
        "int select(int) IndexOutOfBoundsException",
        "int nearest(int) IllegalArgumentException",
        "int covered(int,int) IllegalArgumentException",
        "int deepestPoint() NoSuchElementException",
        "int overlapCount() ",
        "int scheduleWeight() ",
        "int scheduled(int) IndexOutOfBoundsException",
        "int piercingPoint(int) IndexOutOfBoundsException",
        "int addRangeFilter(int,int,int) IllegalArgumentException,IllegalStateException",
        "int addHeavierFilter(int) NoSuchElementException,IllegalStateException",
        "int addCombinedFilter(int,int,int) IllegalArgumentException,IllegalStateException",
        "int feed(int) IllegalArgumentException,IllegalStateException",
        "int parseFilter() IllegalStateException",
        "int matchCount(int) IllegalArgumentException",
        "boolean accepts(int,int) IllegalArgumentException,NoSuchElementException",
        "int open(int,int) IllegalArgumentException",
        "boolean hasNext(int) IllegalArgumentException,IllegalStateException",
        "int next(int) IllegalArgumentException,IllegalStateException,NoSuchElementException",
        "int removeCurrent(int) IllegalArgumentException,IllegalStateException",
        "int save() ",
        "int load() IllegalStateException",
    };

    private static String names(Class<?>[] types) {
        return Arrays.stream(types).map(Class::getSimpleName).collect(Collectors.joining(","));
    }

    private static String written(Method m) {
        return m.getReturnType().getSimpleName() + " " + m.getName() + "(" + names(m.getParameterTypes()) + ") "
                + names(m.getExceptionTypes());
    }

    public static void main(String[] args) {
        Checks c = new Checks();
        Class<?> face = IntervalTree.class;
        c.due("the class is public and final", true,
                () -> Modifier.isPublic(face.getModifiers()) && Modifier.isFinal(face.getModifiers()));
        Set<String> seen = new TreeSet<>();
        Set<String> publicNames = new TreeSet<>();
        for (Method m : face.getDeclaredMethods()) {
            if (!Modifier.isPrivate(m.getModifiers())) {
                seen.add(written(m) + (Modifier.isPublic(m.getModifiers()) ? "" : " not public"));
                publicNames.add(m.getName());
            }
        }
        c.due("the methods", new TreeSet<>(Arrays.asList(FACE)), () -> seen);
        for (Method m : face.getDeclaredMethods()) {
            if (Modifier.isPrivate(m.getModifiers())) {
                c.due("private method " + m.getName() + " bears a public name", false,
                        () -> publicNames.contains(m.getName()));
            }
        }
        for (Field f : face.getDeclaredFields()) {
            c.due("the field " + f.getName() + " is private", true, () -> Modifier.isPrivate(f.getModifiers()));
        }
        Constructor<?>[] made = face.getDeclaredConstructors();
        c.due("the constructors", 1, () -> made.length);
        c.due("the constructor", true,
                () -> Modifier.isPublic(made[0].getModifiers()) && made[0].getParameterCount() == 0);
        c.end();
    }
}
