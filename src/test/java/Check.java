/** Counts the answers that are not as due; each test ends with exit code 1 if there was one. */
final class Check {
    static final long LONG_BAD = Long.MIN_VALUE + 2, LONG_NOT = Long.MIN_VALUE + 3;

    private static int made = 0, wrong = 0;

    private Check() {
    }

    static void due(String call, long got, long want) {
        made++;
        if (got != want) {
            wrong++;
            System.out.println(call + " answered " + got + ", due is " + want);
        }
    }

    static void that(String what, boolean holds) {
        made++;
        if (!holds) {
            wrong++;
            System.out.println("not so: " + what);
        }
    }

    static void end() {
        System.out.println(made + " checks, " + wrong + " wrong");
        if (wrong != 0 || made == 0) {
            System.exit(1);
        }
    }

    static void typeAll(HandInHand x, int text, String bytes) {
        x.wipe(text);
        for (int i = 0; i < bytes.length(); i++) {
            x.type(text, bytes.charAt(i));
        }
    }

    static HandInHand with(String fair, String order, String way) {
        HandInHand x = new HandInHand();
        typeAll(x, 0, fair);
        typeAll(x, 1, order);
        typeAll(x, 2, way);
        return x;
    }
}
