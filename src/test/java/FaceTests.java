import java.lang.management.ManagementFactory;
import java.lang.reflect.Constructor;
import java.lang.reflect.Field;
import java.lang.reflect.Method;
import java.lang.reflect.Modifier;
import java.util.Arrays;
import java.util.Random;
import java.util.Set;
import java.util.TreeSet;

/** The public face to the letter, wild numbers that must not throw, and what calls make. */
public final class FaceTests {
    private static final String[] FACE = {
        "int type(int, int)", "int wipe(int)", "int undo(int)", "int fault(int)", "int set(int, int)",
        "int grip(int, int, int)", "int person(int, int, int)", "int read(int)", "int dense(int)", "int judged()",
        "int at(int)", "int near(int, int)", "int easiest(int, int, int)", "int order(int)", "int loose()",
        "int risk()", "int best(int, int)", "long holds(int, int, int, int)", "long alike(int)",
        "int torn(int, int)", "int fairs(int, int)", "long is(int, int, int, int)", "int likeliest(int, int)",
        "int look(int, int)", "int forget()", "long seek(int, int)", "long parted(int, int, int)",
        "int meet(int, int)", "int counts(int, int, int)", "int sheet(int, int, int)", "int lose(int)",
        "int lay(int, int, int, int)", "int get(int, int, int)", "int copy(int, int, int, int, int)",
        "int write(int, int)", "int count(int)", "long digest()",
    };

    private FaceTests() {
    }

    public static void main(String[] args) throws ReflectiveOperationException {
        constants();
        methods();
        others();
        wildNumbers();
        roomOfCalls();
        Check.end();
    }

    private static void constants() {
        Check.due("NONE", HandInHand.NONE, -1);
        Check.due("BAD", HandInHand.BAD, -2);
        Check.due("NOT", HandInHand.NOT, -3);
        Check.due("FULL", HandInHand.FULL, -4);
    }

    private static void methods() {
        Set<String> due = new TreeSet<>(Arrays.asList(FACE)), got = new TreeSet<>();
        for (Method method : HandInHand.class.getDeclaredMethods()) {
            if (!Modifier.isPrivate(method.getModifiers())) {
                String types = Arrays.toString(method.getParameterTypes()).replaceAll("[\\[\\]]", "");
                got.add(method.getReturnType() + " " + method.getName() + "(" + types + ")");
                Check.that(method + " is public and of the object",
                        Modifier.isPublic(method.getModifiers()) && !Modifier.isStatic(method.getModifiers()));
            }
        }
        Check.that("the methods are " + due + ", not " + got, due.equals(got));
    }

    private static void others() {
        Check.that("public and final", HandInHand.class.getModifiers() == (Modifier.PUBLIC | Modifier.FINAL));
        Constructor<?>[] constructors = HandInHand.class.getDeclaredConstructors();
        Check.that("one constructor", constructors.length == 1 && Modifier.isPublic(constructors[0].getModifiers())
                && constructors[0].getParameterCount() == 0);
        Set<String> seen = new TreeSet<>();
        for (Field field : HandInHand.class.getDeclaredFields()) {
            if (!Modifier.isPrivate(field.getModifiers())) {
                seen.add(field.getName());
            }
        }
        Check.that("the constants " + seen, seen.equals(Set.of("NONE", "BAD", "NOT", "FULL")));
        for (Class<?> inside : HandInHand.class.getDeclaredClasses()) {
            Check.that(inside + " is static", Modifier.isStatic(inside.getModifiers()));
        }
    }

    private static void wildNumbers() throws ReflectiveOperationException {
        Random random = new Random(38);
        int[] edges = {Integer.MIN_VALUE, Integer.MAX_VALUE, -3, -2, -1, 0, 1, 2, 3, 4, 5, 6, 7, 8, 31, 32, 63, 64, 71};
        Method[] methods = HandInHand.class.getDeclaredMethods();
        for (int run = 0; run < 300; run++) {
            HandInHand x = Check.with("01#3;4567;89#1", "badce", "essenwwn");
            for (int call = 0; call < 480; call++) {
                Method method = methods[random.nextInt(methods.length)];
                if (!Modifier.isPublic(method.getModifiers())) {
                    continue;
                }
                Object[] numbers = new Object[method.getParameterCount()];
                for (int k = 0; k < numbers.length; k++) {
                    numbers[k] = random.nextInt(9) == 0 ? random.nextInt() : edges[random.nextInt(edges.length)];
                }
                method.invoke(x, numbers);
            }
        }
        Check.that("nothing was thrown", true);
    }

    /** All calls of a run share one room: what a call makes must not grow with the calls. */
    private static void roomOfCalls() {
        com.sun.management.ThreadMXBean threads =
                (com.sun.management.ThreadMXBean) ManagementFactory.getThreadMXBean();
        HandInHand x = Check.with("0123;4567;8901", "badce", "esen");
        for (int k = 0; k < 5; k++) {
            x.look(8 * (k % 3) + k % 4, k + 1);
        }
        dearCalls(x);
        long before = threads.getCurrentThreadAllocatedBytes();
        for (int k = 0; k < 500; k++) {
            dearCalls(x);
        }
        long made = threads.getCurrentThreadAllocatedBytes() - before;
        Check.that("500 rounds of dear calls made " + made + " bytes", made < 50_000);
    }

    private static void dearCalls(HandInHand x) {
        x.digest();
        x.sheet(0, 2, 64);
        x.write(0, 0);
        x.copy(0, 0, 0, 1, 63);
        x.undo(0);
        x.type(0, '1');
        x.wipe(2);
    }
}
