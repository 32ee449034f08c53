import java.lang.reflect.Method;
import java.util.ArrayList;
import java.util.HashMap;
import java.util.List;
import java.util.Map;
import java.util.Random;
import java.util.TreeMap;

/** Runs of calls by fixed seeds, each answered by the class and by the slow model alike. */
public final class ModelTests {
    /** The digest at the end of a run is its call 512. */
    private static final int RUNS = 700, CALLS = 511;

    /** How often a call comes, its name, and for each of its numbers what it is (or the number itself). */
    private static final String[] KINDS = {
        "2 type text byte", "1 wipe text", "2 undo text", "3 fault text",
        "4 set 0 place", "3 set 1 place", "3 set 2 rule", "1 set rule cell",
        "10 grip person person sixteenths", "6 person person 0 sixteenths", "8 person person 1 place",
        "1 person person part cell", "4 read sheet",
        "2 dense place", "1 dense cell", "3 judged", "4 at step", "4 near place place", "1 near cell cell",
        "12 easiest place place letter", "1 easiest cell cell letter", "2 order person", "2 loose", "3 risk",
        "8 best persons goes", "12 holds joint step pressed part", "4 alike part",
        "8 torn seed lost", "4 fairs seed fairs",
        "10 is place minutes place part", "1 is cell minutes cell part", "4 likeliest place minutes",
        "5 look place weight", "1 look cell weight", "1 forget", "14 seek person look",
        "10 parted person person share", "8 meet persons part", "4 counts steps told told",
        "4 sheet sheet form items", "1 lose sheet", "8 lay sheet form item value", "8 get sheet form item",
        "8 copy sheet item sheet item few", "4 write place sheet", "5 count counter", "1 digest",
    };

    private static final Map<String, Method> OURS = methodsOf(HandInHand.class), MODELS = methodsOf(Model.class);
    private static final List<String[]> DRAWN = drawn();
    private static final Map<String, Integer> ASKED = new TreeMap<>(), ANSWERED = new HashMap<>();

    private final int run;
    private final Random random;
    private final HandInHand x = new HandInHand();
    private final Model model = new Model();
    /** Most SHEETS of a run are of one FORM, or CAST and STORE would be most answers. */
    private final int form;
    private int made = 0;

    private ModelTests(int run) {
        this.run = run;
        random = new Random(run);
        form = random.nextInt(3);
    }

    public static void main(String[] args) throws ReflectiveOperationException {
        for (int run = 0; run < RUNS; run++) {
            new ModelTests(run).play();
        }
        for (String name : ASKED.keySet()) {
            int asked = ASKED.get(name), answered = ANSWERED.getOrDefault(name, 0);
            Check.that(name + ": a third at least is not refused, " + answered + " of " + asked,
                    3 * answered >= asked);
        }
        Check.end();
    }

    private static Map<String, Method> methodsOf(Class<?> of) {
        Map<String, Method> methods = new HashMap<>();
        for (Method method : of.getDeclaredMethods()) {
            methods.putIfAbsent(method.getName(), method);
        }
        return methods;
    }

    private static List<String[]> drawn() {
        List<String[]> calls = new ArrayList<>();
        for (String kind : KINDS) {
            int often = Integer.parseInt(kind.substring(0, kind.indexOf(' ')));
            for (int times = 0; times < often; times++) {
                calls.add(kind.substring(kind.indexOf(' ') + 1).split(" "));
            }
        }
        return calls;
    }

    private void play() throws ReflectiveOperationException {
        for (int text = 0; text < 3; text++) {
            typeAnew(text, true);
        }
        settle();
        for (int s = 0; s < 4; s++) {
            ask("sheet", s, someForm(), someNumber("items"));
        }
        while (made < CALLS) {
            String[] call = DRAWN.get(random.nextInt(DRAWN.size()));
            int[] numbers = new int[call.length - 1];
            for (int k = 0; k < numbers.length; k++) {
                numbers[k] = random.nextInt(60) == 0 ? wildNumber() : someNumber(call[k + 1]);
            }
            ask(call[0], numbers);
            mendTexts();
        }
        Check.due("run " + run + ": digest at the end", x.digest(), model.digest());
    }

    private void ask(String name, int... numbers) throws ReflectiveOperationException {
        if (made >= CALLS) {
            return;
        }
        made++;
        Object[] told = new Object[numbers.length];
        StringBuilder call = new StringBuilder("run ").append(run).append(": ").append(name);
        for (int k = 0; k < numbers.length; k++) {
            told[k] = numbers[k];
            call.append(' ').append(numbers[k]);
        }
        long got = ((Number) OURS.get(name).invoke(x, told)).longValue();
        long want = ((Number) MODELS.get(name).invoke(model, told)).longValue();
        Check.due(call.toString(), got, want);
        ASKED.merge(name, 1, Integer::sum);
        if (!isRefusal(want)) {
            ANSWERED.merge(name, 1, Integer::sum);
        }
    }

    private static boolean isRefusal(long answer) {
        return answer >= -4 && answer <= -2 || answer >= -15 && answer <= -11 || answer == Integer.MIN_VALUE
                || answer == Check.LONG_BAD || answer == Check.LONG_NOT;
    }

    /** A spoiled text stays so for a few calls, no longer: else most calls would meet no PLACE. */
    private void mendTexts() throws ReflectiveOperationException {
        for (int text = 0; text < 3; text++) {
            if (model.count(text) == 0 && random.nextInt(4) == 0) {
                ask("wipe", text);
                typeAnew(text, false);
                if (text == 0) {
                    settle();
                }
            }
        }
    }

    /** All stand and look where PLACES are in this fair, or few could seek or meet. */
    private void settle() throws ReflectiveOperationException {
        for (int person = 0; person < 5; person++) {
            ask("person", person, 1, somePlace());
        }
        ask("forget");
        for (int left = random.nextInt(6); left > 0; left--) {
            ask("look", somePlace(), someNumber("weight"));
        }
        ask("set", 0, somePlace());
    }

    private void typeAnew(int text, boolean askFaults) throws ReflectiveOperationException {
        String bytes = text == 0 ? someFair() : text == 1 ? someOrder() : someWay();
        for (char c : bytes.toCharArray()) {
            ask("type", text, c);
            if (askFaults) {
                ask("fault", text);
            }
        }
    }

    private String someFair() {
        boolean whole = random.nextInt(8) == 0;
        int rows = whole ? 8 : 1 + random.nextInt(8), width = whole ? 8 : 1 + random.nextInt(8);
        int posts = random.nextInt(4), most = 1 + random.nextInt(10);
        StringBuilder text = new StringBuilder();
        for (int row = 0; row < rows; row++) {
            for (int column = 0; column < width; column++) {
                boolean post = random.nextInt(10) < posts;
                text.append(post ? "#" : String.valueOf(random.nextInt(most)));
            }
            text.append(row < rows - 1 ? ";" : "");
        }
        if (random.nextInt(20) == 0) {
            text.setCharAt(random.nextInt(text.length()), "x;0#\u00ff".charAt(random.nextInt(5)));
        }
        return text.toString();
    }

    private String someOrder() {
        StringBuilder left = new StringBuilder("abcde"), text = new StringBuilder();
        int most = 1 + random.nextInt(5);
        for (int k = 0; k < most; k++) {
            int at = random.nextInt(left.length());
            text.append(random.nextInt(60) == 0 ? 'c' : left.charAt(at));
            left.deleteCharAt(at);
        }
        return text.toString();
    }

    /** Walks the fair as it is, so that many steps are done before one goes to no PLACE. */
    private String someWay() {
        StringBuilder text = new StringBuilder();
        int here = model.start, most = random.nextInt(41);
        for (int k = 0; k < most; k++) {
            int direction = random.nextInt(4);
            for (int times = 0; times < 9 && model.dense(beside(here, direction)) < 0; times++) {
                direction = random.nextInt(4);
            }
            here = beside(here, direction);
            text.append(random.nextInt(300) == 0 ? 'z' : "nesw".charAt(direction));
        }
        return text.toString();
    }

    private static int beside(int place, int direction) {
        switch (direction) {
            case 0: return place - 8;
            case 1: return place % 8 == 7 ? -1 : place + 1;
            case 2: return place + 8;
            default: return place % 8 == 0 ? -1 : place - 1;
        }
    }

    private int someForm() {
        return random.nextInt(6) == 0 ? random.nextInt(3) : form;
    }

    private int wildNumber() {
        int[] wild = {-3, -2, -1, 5, 6, 17, 32, 64, 65, 100, 256, Integer.MIN_VALUE, Integer.MAX_VALUE};
        return wild[random.nextInt(wild.length)];
    }

    private int between(int low, int high) {
        return low + random.nextInt(Math.max(high - low, 0) + 1);
    }

    /** Mostly as it may be in the scene as it is: refusals have tests of their own. */
    private int someNumber(String what) {
        switch (what) {
            case "text": case "rule": case "share": return between(0, 2);
            case "byte": return "0123456789#;abcdefnesw".charAt(random.nextInt(22));
            case "person": return between(0, 4);
            case "persons": return between(1, 31);
            case "sixteenths": return between(0, 16);
            case "part": return between(0, 1);
            case "cell": return between(0, 63);
            case "place": return somePlace();
            case "step": return between(0, model.count(3));
            case "joint": return between(0, model.count(1) - 2);
            case "pressed": return between(0, Math.min(6, model.count(3) / 2));
            case "letter": return between(-2, 16);
            case "goes": return between(-1, 4);
            case "look": return between(-2, 4);
            case "seed": return random.nextInt();
            case "lost": case "sheet": return between(0, 3);
            case "fairs": return between(1, 60);
            case "minutes": return between(0, 5);
            case "weight": return between(1, 9);
            case "steps": return between(1, 99);
            case "told": return between(0, random.nextBoolean() ? 99 : 5);
            case "form": return someForm();
            case "items": return random.nextInt(3) == 0 ? 64 : between(0, 64);
            case "item": return between(0, random.nextBoolean() ? 6 : 40);
            case "few": return between(0, 12);
            case "value": return random.nextBoolean() ? between(0, 17) : random.nextInt();
            case "counter": return between(0, 8);
            default: return Integer.parseInt(what);
        }
    }

    private int somePlace() {
        int place = between(0, 63);
        for (int times = 0; times < 200 && model.dense(place) < 0; times++) {
            place = between(0, 63);
        }
        return place;
    }
}
