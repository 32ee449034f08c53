import java.lang.reflect.Method;
import java.util.ArrayList;
import java.util.Arrays;
import java.util.List;
import java.util.Random;

/** Runs of calls by fixed seeds, each answered by the class and by the slow model alike. */
public final class ModelTests {
    /** The digest at the end of a run is its call 512. */
    private static final int RUNS = 700, CALLS = 511;

    /** A call, how often it comes, and for each number the least and the most that may be well. */
    private static final Object[][] CALL_KINDS = {
        {"wipe", 1, 0, 2}, {"undo", 4, 0, 2}, {"fault", 4, 0, 2},
        {"set", 8, 0, 2, 0, 63}, {"grip", 8, 0, 4, 0, 4, 0, 16}, {"person", 12, 0, 4, 0, 1, 0, 63},
        {"read", 3, 0, 3}, {"dense", 2, 0, 63}, {"judged", 3}, {"at", 4, 0, 12}, {"near", 4, 0, 63, 0, 63},
        {"easiest", 10, 0, 63, 0, 63, -2, 16}, {"order", 2, 0, 4}, {"loose", 2}, {"risk", 3},
        {"best", 6, 0, 31, -1, 4}, {"holds", 8, 0, 3, 0, 8, 0, 6, 0, 1}, {"alike", 4, 0, 1},
        {"torn", 8, -99999, 99999, 0, 3}, {"fairs", 4, -99999, 99999, 1, 60},
        {"is", 10, 0, 63, 0, 5, 0, 63, 0, 1}, {"likeliest", 3, 0, 63, 0, 5},
        {"look", 8, 0, 63, 1, 9}, {"forget", 1}, {"seek", 12, 0, 4, -2, 4}, {"parted", 8, 0, 4, 0, 4, 0, 2},
        {"meet", 6, 1, 31, 0, 1}, {"counts", 5, 1, 99, 0, 99, 0, 99},
        {"sheet", 4, 0, 3, 0, 2, 0, 64}, {"lose", 1, 0, 3}, {"lay", 5, 0, 3, 0, 2, 0, 20, -70000, 70000},
        {"get", 6, 0, 3, 0, 2, 0, 63}, {"copy", 6, 0, 3, 0, 10, 0, 3, 0, 10, 0, 12}, {"write", 3, 0, 63, 0, 3},
        {"count", 5, 0, 8}, {"digest", 1},
    };

    private static final List<Method> OURS = new ArrayList<>(), MODELS = new ArrayList<>();
    private static final List<int[]> RANGES = new ArrayList<>();

    private ModelTests() {
    }

    public static void main(String[] args) throws ReflectiveOperationException {
        for (Object[] kind : CALL_KINDS) {
            int[] ranges = new int[kind.length - 2];
            for (int k = 0; k < ranges.length; k++) {
                ranges[k] = (Integer) kind[k + 2];
            }
            for (int times = 0; times < (Integer) kind[1]; times++) {
                OURS.add(named(HandInHand.class, (String) kind[0]));
                MODELS.add(named(Model.class, (String) kind[0]));
                RANGES.add(ranges);
            }
        }
        for (int run = 0; run < RUNS; run++) {
            play(run);
        }
        Check.end();
    }

    private static Method named(Class<?> of, String name) {
        for (Method method : of.getDeclaredMethods()) {
            if (method.getName().equals(name)) {
                return method;
            }
        }
        throw new IllegalStateException(name);
    }

    private static void play(int run) throws ReflectiveOperationException {
        Random random = new Random(run);
        HandInHand x = new HandInHand();
        Model model = new Model();
        int made = typeAll(run, x, model, 0, someFair(random));
        made += typeAll(run, x, model, 1, someLetters(random, "abcde", 5, true));
        made += typeAll(run, x, model, 2, someLetters(random, "nessewes", random.nextInt(20), false));
        for (; made < CALLS; made++) {
            int kind = random.nextInt(OURS.size());
            Object[] numbers = someNumbers(random, RANGES.get(kind));
            long got = ((Number) OURS.get(kind).invoke(x, numbers)).longValue();
            long want = ((Number) MODELS.get(kind).invoke(model, numbers)).longValue();
            Check.due("run " + run + ": " + OURS.get(kind).getName() + Arrays.toString(numbers), got, want);
        }
        Check.due("run " + run + ": digest at the end", x.digest(), model.digest());
    }

    private static int typeAll(int run, HandInHand x, Model model, int text, String bytes) {
        for (char c : bytes.toCharArray()) {
            Check.due("run " + run + ": type " + text + " " + (int) c, x.type(text, c), model.type(text, c));
            Check.due("run " + run + ": fault " + text, x.fault(text), model.fault(text));
        }
        return 2 * bytes.length();
    }

    private static String someFair(Random random) {
        int rows = 1 + random.nextInt(8), width = 1 + random.nextInt(8);
        if (random.nextInt(12) == 0) {
            rows = 8;
            width = 8;
        }
        int posts = random.nextInt(4), most = 1 + random.nextInt(10);
        StringBuilder text = new StringBuilder();
        for (int row = 0; row < rows; row++) {
            for (int column = 0; column < width; column++) {
                boolean post = random.nextInt(10) < posts;
                text.append(post ? "#" : String.valueOf(random.nextInt(most)));
            }
            text.append(row < rows - 1 ? ";" : "");
        }
        if (random.nextInt(10) == 0) {
            text.setCharAt(random.nextInt(text.length()), "x;0#\u00ff".charAt(random.nextInt(5)));
        }
        return text.toString();
    }

    private static String someLetters(Random random, String of, int most, boolean noneTwice) {
        StringBuilder text = new StringBuilder();
        for (int k = 0; k < most && random.nextInt(9) != 0; k++) {
            char c = of.charAt(random.nextInt(of.length()));
            boolean twice = noneTwice && text.indexOf(String.valueOf(c)) >= 0;
            if (!twice || random.nextInt(20) == 0) {
                text.append(random.nextInt(80) == 0 ? 'z' : c);
            }
        }
        return text.toString();
    }

    private static Object[] someNumbers(Random random, int[] ranges) {
        Object[] numbers = new Object[ranges.length / 2];
        for (int k = 0; k < numbers.length; k++) {
            int low = ranges[2 * k], high = ranges[2 * k + 1];
            int v = low + random.nextInt(high - low + 1);
            // Fairs are mostly smaller than 8 by 8: low rows and columns meet more PLACES.
            if (high == 63 && low == 0 && random.nextInt(3) != 0) {
                v = 8 * random.nextInt(3) + random.nextInt(4);
            }
            if (random.nextInt(40) == 0) {
                int[] wild = {low - 1, high + 1, Integer.MIN_VALUE, Integer.MAX_VALUE, -v, low, high};
                v = wild[random.nextInt(wild.length)];
            }
            numbers[k] = v;
        }
        return numbers;
    }
}
