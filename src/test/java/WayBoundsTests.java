/** Boundary sentences on ways and orders: promises 10 to 20, and the terms these stand on. */
public final class WayBoundsTests extends Bounds {
    private WayBoundsTests() {
    }

    public static void main(String[] args) throws ReflectiveOperationException {
        Check.runAll(WayBoundsTests.class);
        Check.end();
    }

    // ---- steps

    private static void dueDone(String fair, int start, String way, int done) {
        HandInHand x = with(fair, "", way);
        x.set(0, start);
        due("done of " + way + " from " + start + " in " + fair, x.count(3), done);
        due("judged", x.judged(), done < way.length() ? done : NONE);
    }

    @Says(promise = 0, words = "STEPS of THE WAY from START on are done as long as each goes to a PLACE;")
    static void stepsAreDoneAsLongAsEachGoesToAPlace() {
        dueDone("00#0", 0, "eee", 1);
        dueDone("00#0", 0, "ewe", 3);
        dueDone("00#0", 0, "wee", 0);
        dueDone("00", 0, "ew".repeat(20), 40);
        dueDone("00", 1, "ew".repeat(20), 0);
        dueDone("00;00", 1, "e", 0);
        dueDone("00;00", 8, "s", 0);
    }

    @Says(promise = 0, words = "STEPS of THE WAY from START on are done as long as each goes to a PLACE;")
    static void stepsDoNotGoAroundTheEdges() {
        dueDone(SQUARE, 0, "n", 0);
        dueDone(SQUARE, 0, "w", 0);
        dueDone(SQUARE, 63, "s", 0);
        dueDone(SQUARE, 63, "e", 0);
        dueDone(SQUARE, 7, "e", 0);
        dueDone(SQUARE, 8, "w", 0);
        dueDone(SQUARE, 56, "s", 0);
        dueDone(SQUARE, 7, "n", 0);
        dueDone(SQUARE, 6, "e", 1);
        dueDone(SQUARE, 9, "w", 1);
        dueDone(SQUARE, 55, "s", 1);
        dueDone(SQUARE, 8, "n", 1);
    }

    @Says(promise = 0, words = {"JUDGED: the first that does not (0 on;", "NONE. JOINTS"})
    static void judgedIsTheFirstThatIsNotDone() {
        HandInHand x = with("00", "", "");
        due("no steps", x.judged(), NONE);
        x.type(2, 'e');
        due("all done", x.judged(), NONE);
        x.type(2, 'e');
        due("the second is not", x.judged(), 1);
        x.type(2, 'w');
        due("the second is the first that is not", x.judged(), 1);
        due("the last of forty", with("00", "", "ew".repeat(19) + "es").judged(), 39);
    }

    @Says(promise = 0, words = "0 where START is no PLACE, and there are any);")
    static void judgedWhereStartIsNoPlace() {
        for (int start : new int[] {1, 2, 8, 63}) {
            HandInHand x = with("0#", "", "");
            x.set(0, start);
            due("there are none", x.judged(), NONE);
            x.type(2, 'w');
            due("there is one", x.judged(), 0);
            due("none is done", x.count(3), 0);
        }
        HandInHand untyped = new HandInHand();
        untyped.type(2, 'e');
        due("no fair was ever typed", untyped.judged(), 0);
        due("none is done", untyped.count(3), 0);
        HandInHand faulty = with("x", "", "e");
        due("no fair at all", faulty.judged(), 0);
        faulty.type(2, 'x');
        due("no way at all", faulty.judged(), NONE);
    }

    // ---- promises 10 to 14

    @Says(promise = 10, words = {"How DENSE a PLACE is.", "BAD: no PLACE."})
    static void denseIsOfPlacesAlone() {
        HandInHand x = fairOf("0#9");
        int[][] cases = {{-1, BAD}, {0, 0}, {1, BAD}, {2, 9}, {3, BAD}, {8, BAD}, {63, BAD}, {64, BAD}, {LOW, BAD},
            {HIGH, BAD}};
        for (int[] c : cases) {
            due("dense " + c[0], x.dense(c[0]), c[1]);
        }
        due("of no fair", new HandInHand().dense(0), BAD);
        HandInHand square = fairOf(SQUARE);
        due("the last place", square.dense(63), 0);
        due("beyond it", square.dense(64), BAD);
    }

    @Says(promise = 11, words = "JUDGED; NONE.")
    static void judgedChangesWithStartFairAndWay() {
        HandInHand x = with("000", "", "ee");
        due("all done", x.judged(), NONE);
        x.set(0, 1);
        due("by another start", x.judged(), 1);
        x.undo(2);
        due("by another way", x.judged(), NONE);
        x.undo(0);
        due("by another fair", x.judged(), 0);
    }

    @Says(promise = 12, words = "Where one is behind k steps (0 to those that are done).")
    static void atTakesZeroToThoseThatAreDone() {
        HandInHand x = with("00000", "", "eeee");
        x.set(0, 2);
        due("below", x.at(-1), BAD);
        due("behind none", x.at(0), 2);
        due("behind all that are done", x.at(2), 4);
        due("beyond these", x.at(3), BAD);
        due("of all steps", x.at(4), BAD);
        x.wipe(2);
        due("no steps", x.at(0), 2);
        due("beyond", x.at(1), BAD);
        HandInHand forty = with("00", "", "ew".repeat(20));
        due("behind forty", forty.at(40), 0);
        due("behind thirty-nine", forty.at(39), 1);
        due("behind forty-one", forty.at(41), BAD);
    }

    @Says(promise = 12, words = "NOT: START is no PLACE.")
    static void atIsNotWhereStartIsNoPlace() {
        HandInHand x = with("0#", "", "e");
        for (int start : new int[] {1, 2, 8, 63}) {
            x.set(0, start);
            due("behind none", x.at(0), NOT);
            due("behind one", x.at(1), BAD);
            due("behind less than none", x.at(-1), BAD);
        }
    }

    @Says(promise = 0, words = "NEAR: the fewest steps from PLACE to PLACE; NONE.")
    static void nearIsTheFewestStepsOrNone() {
        HandInHand x = fairOf(SQUARE);
        due("from corner to corner", x.near(0, 63), 14);
        due("from the end of a row to the next", x.near(7, 8), 8);
        due("here", x.near(63, 63), 0);
        HandInHand parts = fairOf("0#0;#00");
        due("no way", parts.near(0, 2), NONE);
        due("no way back", parts.near(9, 0), NONE);
        due("here, alone", parts.near(0, 0), 0);
        due("a corner is no side", parts.near(0, 9), NONE);
        String winding = "00000000;#######0;00000000;0#######;00000000;#######0;00000000;0#######";
        due("a winding way", fairOf(winding).near(0, 56), 7 + 2 + 7 + 2 + 7 + 2 + 7 + 1);
    }

    @Says(promise = 13, words = {"NEAR; NONE.", "BAD."})
    static void nearIsBadOfNoPlaces() {
        HandInHand x = fairOf("0#0");
        for (int place : new int[] {-1, 1, 3, 8, 63, 64, LOW, HIGH}) {
            due("from " + place, x.near(place, 0), BAD);
            due("to " + place, x.near(0, place), BAD);
            due("both " + place, x.near(place, place), BAD);
        }
        due("no way", x.near(0, 2), NONE);
        due("of no fair", new HandInHand().near(0, 0), BAD);
    }

    private static void dueEasiest(HandInHand x, int from, int to, int dense, int... letters) {
        due("dense", x.easiest(from, to, -2), dense);
        due("steps", x.easiest(from, to, NONE), letters.length);
        for (int i = 0; i < letters.length; i++) {
            due("letter " + i, x.easiest(from, to, i), letters[i]);
        }
        for (int i = letters.length; i <= letters.length + 3; i++) {
            due("behind the last letter, " + i, x.easiest(from, to, i), NONE);
        }
        due("far behind", x.easiest(from, to, HIGH), NONE);
    }

    @Says(promise = 0, words =
        "EASIEST way: of all ways between two PLACES that with the least DENSE of all PLACES stepped to, together,")
    static void easiestIsOfTheLeastDense() {
        HandInHand x = fairOf("911;091");
        dueEasiest(x, 0, 8, 0, 2);
        dueEasiest(x, 8, 0, 9, 0);
        dueEasiest(x, 0, 0, 0);
        dueEasiest(fairOf("999;999"), 0, 10, 27, 1, 1, 2);
        dueEasiest(fairOf("090;000"), 0, 2, 0, 2, 1, 1, 0);
        dueEasiest(fairOf("000;900;900"), 18, 0, 0, 0, 0, 3, 3);
        dueEasiest(fairOf("009;009;000"), 0, 18, 0, 1, 2, 2, 1);
        dueEasiest(fairOf(ROW), 0, 5, 0, 1, 1, 1, 1, 1);
        // One figure less is worth any number of steps.
        dueEasiest(fairOf("01000000;0######0;00000000"), 0, 7, 0,
                2, 2, 1, 1, 1, 1, 1, 1, 1, 0, 0);
    }

    @Says(promise = 0, words = "of like ones the fewest steps,")
    static void easiestIsOfTheFewestSteps() {
        dueEasiest(fairOf("000;000"), 0, 2, 0, 1, 1);
        // Around by n is as dense, and n is the lesser letter, but it takes more steps.
        dueEasiest(fairOf("101;020"), 8, 10, 2, 1, 1);
    }

    @Says(promise = 0, words = "of like ones the least row of letters (n, e, s, w):")
    static void easiestIsOfTheLeastLetters() {
        HandInHand x = fairOf("00;00");
        dueEasiest(x, 8, 1, 0, 0, 1);
        dueEasiest(x, 0, 9, 0, 1, 2);
        dueEasiest(x, 1, 8, 0, 2, 3);
        dueEasiest(x, 9, 0, 0, 0, 3);
        dueEasiest(fairOf("000;000;000"), 18, 0, 0, 0, 0, 3, 3);
        dueEasiest(fairOf("000;000;000"), 0, 18, 0, 1, 1, 2, 2);
    }

    @Says(promise = 0, words = "what all are, how many steps, the i-th letter (0 n, 1 e, 2 s, 3 w); NONE.")
    static void easiestIsNoneWhereNoWayGoes() {
        HandInHand x = fairOf("0#0");
        for (int i = -2; i <= 2; i++) {
            due("no way " + i, x.easiest(0, 2, i), NONE);
        }
        dueEasiest(fairOf("000;000;000"), 9, 1, 0, 0);
        dueEasiest(fairOf("000;000;000"), 9, 10, 0, 1);
        dueEasiest(fairOf("000;000;000"), 9, 17, 0, 2);
        dueEasiest(fairOf("000;000;000"), 9, 8, 0, 3);
    }

    @Says(promise = 14, words =
        {"EASIEST: DENSE of all (i = -2), how many steps (NONE), the i-th letter; NONE.", "BAD."})
    static void easiestTakesMinusTwoOn() {
        HandInHand x = fairOf("0#;35");
        due("the least", x.easiest(0, 9, -2), 8);
        due("below the least", x.easiest(0, 9, -3), BAD);
        due("far below", x.easiest(0, 9, LOW), BAD);
        due("steps", x.easiest(0, 9, -1), 2);
        due("the last letter", x.easiest(0, 9, 1), 1);
        due("behind it", x.easiest(0, 9, 2), NONE);
        for (int place : new int[] {-1, 1, 2, 16, 63, 64, LOW, HIGH}) {
            due("from " + place, x.easiest(place, 0, 0), BAD);
            due("to " + place, x.easiest(0, place, 0), BAD);
        }
        due("bad ahead of no way", fairOf("0#0").easiest(0, 2, -3), BAD);
    }

    // ---- orders, promises 15 to 18

    @Says(promise = 15, words = "Who goes i-th (0 to 4) in ORDER; NONE.")
    static void orderTakes0To4() {
        HandInHand x = with("", "edcba", "");
        due("below", x.order(-1), BAD);
        due("the first", x.order(0), 4);
        due("the fifth", x.order(4), 0);
        due("beyond", x.order(5), BAD);
        x.undo(1);
        due("four go, no fifth", x.order(4), NONE);
        due("the fourth", x.order(3), 1);
        x.wipe(1);
        due("nobody", x.order(0), NONE);
        due("beyond, of nobody", x.order(5), BAD);
    }

    @Says(promise = 0, words = "JOINTS 0 on are between PERSONS side by side in ORDER (0 between the first two).")
    static void jointsAreOneLessThanPersons() {
        String letters = "abcde";
        for (int persons = 0; persons <= 5; persons++) {
            HandInHand x = with("0", letters.substring(0, persons), "");
            int joints = Math.max(persons - 1, 0);
            for (int joint = -1; joint <= 5; joint++) {
                boolean is = joint >= 0 && joint < joints;
                due("joint " + joint + " of " + persons, x.holds(joint, 0, 0, 0), is ? 1 : LONG_BAD);
            }
            due("loose", x.loose(), 8L * joints);
        }
        HandInHand x = with("09", "dbe", "e");
        x.grip(3, 1, 0);
        due("0 is between the first two", x.holds(0, 0, 1, 0), 7);
        due("1 is between the next", x.holds(1, 0, 1, 0), 23);
    }

    @Says(promise = 0, words = "LOOSE: of all JOINTS 16 less the GRIP, together.")
    static void looseGoesFromNoneToAll() {
        HandInHand x = with("", "abcde", "");
        for (int a = 0; a < 4; a++) {
            x.grip(a, a + 1, 0);
        }
        due("no grip at all", x.loose(), 64);
        for (int a = 0; a < 4; a++) {
            x.grip(a, a + 1, 16);
        }
        due("full grips", x.loose(), 0);
        x.grip(0, 1, 15);
        due("one less", x.loose(), 1);
        x.grip(0, 4, 0);
        due("the last and the first are no joint", x.loose(), 1);
    }

    @Says(promise = 16, words = "LOOSE.")
    static void looseOfNobodyAndOfOneIsNothing() {
        due("nobody", new HandInHand().loose(), 0);
        due("one", with("", "e", "").loose(), 0);
        due("two", with("", "ea", "").loose(), 8);
        due("with a fault", with("", "eae", "").loose(), 0);
    }

    @Says(promise = 0, words = "RISK: DENSE of all steps that are done, together, times LOOSE.")
    static void riskGoesFromNoneToAll() {
        HandInHand x = with("99", "abcde", "ew".repeat(20));
        for (int a = 0; a < 4; a++) {
            x.grip(a, a + 1, 0);
        }
        due("forty steps of nine, no grip", x.risk(), 40 * 9 * 64);
        HandInHand y = with("90", "ab", "e");
        due("where it starts does not count", y.risk(), 0);
        y.type(2, 'w');
        due("where it goes does", y.risk(), 72);
        y.type(2, 'w');
        due("what is not done does not", y.risk(), 72);
    }

    @Says(promise = 17, words = "RISK.")
    static void riskOfNothingIsNothing() {
        due("a new object", new HandInHand().risk(), 0);
        due("nobody", with("99", "", "e").risk(), 0);
        due("one", with("99", "a", "e").risk(), 0);
        due("no steps", with("99", "ab", "").risk(), 0);
        HandInHand x = with("99", "ab", "e");
        due("one step", x.risk(), 72);
        x.set(0, 63);
        due("start is no place", x.risk(), 0);
    }

    @Says(promise = 0, words = "BEST order of PERSONS told as bits (two at least):")
    static void bestTakesTwoToFivePersons() {
        HandInHand x = new HandInHand();
        for (int bits = -1; bits <= 33; bits++) {
            int persons = Integer.bitCount(bits);
            boolean may = bits >= 0 && bits < 32 && persons >= 2;
            due("how loose, of " + bits, x.best(bits, NONE), may ? 8 * (persons - 1) : BAD);
        }
        due("far above", x.best(HIGH, NONE), BAD);
        due("far below", x.best(LOW, NONE), BAD);
        due("two and more bits", x.best(LOW + 3, NONE), BAD);
    }

    private static void dueBest(String call, HandInHand x, int bits, int loose, int... row) {
        due(call + ", how loose", x.best(bits, NONE), loose);
        for (int i = 0; i < 5; i++) {
            due(call + ", who goes " + i, x.best(bits, i), i < row.length ? row[i] : NONE);
        }
    }

    @Says(promise = 0, words =
        "that which is least LOOSE, of like ones the least row: how LOOSE; who goes i-th.")
    static void bestIsTheLeastRowOfLikeOnes() {
        HandInHand x = new HandInHand();
        dueBest("all alike", x, 31, 32, 0, 1, 2, 3, 4);
        dueBest("the last two", x, 24, 8, 3, 4);
        dueBest("three of five", x, 21, 16, 0, 2, 4);
        x.grip(0, 1, 0);
        dueBest("one pair apart", x, 7, 16, 0, 2, 1);
        x.grip(0, 2, 0);
        x.grip(1, 2, 16);
        dueBest("no way but one loose", x, 7, 16, 0, 1, 2);
        HandInHand y = new HandInHand();
        for (int a = 0; a < 5; a++) {
            for (int b = a + 1; b < 5; b++) {
                y.grip(a, b, b == a + 1 || a == 0 && b == 4 ? 16 : 0);
            }
        }
        dueBest("a ring", y, 31, 0, 0, 1, 2, 3, 4);
        y.grip(0, 1, 15);
        dueBest("a ring, loose at one joint", y, 31, 0, 0, 4, 3, 2, 1);
    }

    @Says(promise = 18, words = {"BEST: how LOOSE (i = NONE), who goes i-th (0 to 4; NONE).", "BAD."})
    static void bestTakesNoneTo4() {
        HandInHand x = new HandInHand();
        due("below", x.best(3, -2), BAD);
        due("how loose", x.best(3, -1), 8);
        due("the first", x.best(3, 0), 0);
        due("the last", x.best(3, 1), 1);
        due("behind the last", x.best(3, 2), NONE);
        due("the fifth of two", x.best(3, 4), NONE);
        due("the fifth of five", x.best(31, 4), 4);
        due("beyond", x.best(31, 5), BAD);
    }

    // ---- fractions, promises 19 and 20

    private static void dueHolds(HandInHand x, int joint, int from, int n, long above, long below) {
        dueFraction("holds " + joint + " " + from + " " + n,
                x.holds(joint, from, n, 0), x.holds(joint, from, n, 1), above, below);
    }

    private static long power(long base, int n) {
        long p = 1;
        for (int k = 0; k < n; k++) {
            p *= base;
        }
        return p;
    }

    @Says(promise = 0, words = "FRACTIONS are told in lowest terms, above and below (0 by 1).")
    static void fractionsAreInLowestTerms() {
        HandInHand x = with("08", "ab", "e");
        dueHolds(x, 0, 0, 1, 3, 4);
        dueHolds(x, 0, 0, 0, 1, 1);
        x.person(0, 0, 0);
        x.person(1, 0, 16);
        dueFraction("nothing", x.alike(0), x.alike(1), 0, 1);
        dueFraction("not there", x.is(0, 5, 1, 0), x.is(0, 5, 1, 1), 0, 1);
        x.look(0, 9);
        dueFraction("no steps", x.seek(0, -2), x.seek(0, NONE), 0, 1);
        x.look(1, 9);
        dueFraction("nine of eighteen", x.seek(0, -2), x.seek(0, NONE), 1, 2);
    }

    @Says(promise = 0, words = "HOLDS: the chance that a JOINT holds in n (0 to 6) steps, from a step on (all done):")
    static void holdsTakesZeroToSixStepsThatAreDone() {
        HandInHand x = with("99", "ab", "ewewewe");
        due("fewer than none", x.holds(0, 0, -1, 0), LONG_BAD);
        dueHolds(x, 0, 0, 0, 1, 1);
        due("six", x.holds(0, 0, 6, 1), power(32, 6));
        due("the last six", x.holds(0, 1, 6, 1), power(32, 6));
        due("six, one not there", x.holds(0, 2, 6, 0), LONG_BAD);
        due("seven, that are done", x.holds(0, 0, 7, 0), LONG_BAD);
        due("the last one", x.holds(0, 6, 1, 1), 32);
        due("one behind the last", x.holds(0, 7, 1, 0), LONG_BAD);
        dueHolds(x, 0, 7, 0, 1, 1);
        due("none, from beyond the end", x.holds(0, 8, 0, 0), LONG_BAD);
        due("from below", x.holds(0, -1, 1, 0), LONG_BAD);
        due("from far on", x.holds(0, HIGH, 6, 0), LONG_BAD);
        HandInHand cut = with("99#", "ab", "eew");
        dueHolds(cut, 0, 0, 1, 23, 32);
        due("a step that is not done", cut.holds(0, 0, 2, 0), LONG_BAD);
        due("from one that is not done", cut.holds(0, 1, 1, 0), LONG_BAD);
    }

    @Says(promise = 0, words =
        "in each somebody presses on it by DENSE sixteenths, and it holds then by GRIP sixteenths: a FRACTION.")
    static void holdsAtTheBoundsOfDenseAndGrip() {
        for (int grip = 0; grip <= 16; grip++) {
            HandInHand x = with("09", "ab", "ew");
            x.grip(0, 1, grip);
            dueHolds(x, 0, 1, 1, 1, 1);
            long above = 16 * 7 + 9 * grip, below = 256;
            while (above % 2 == 0 && below % 2 == 0) {
                above /= 2;
                below /= 2;
            }
            dueHolds(x, 0, 0, 1, above, below);
            dueHolds(x, 0, 0, 2, above, below);
        }
        HandInHand six = with("99", "ab", "ewewew");
        six.grip(0, 1, 15);
        dueHolds(six, 0, 0, 6, power(247, 6), power(256, 6));
        six.grip(0, 1, 0);
        dueHolds(six, 0, 0, 6, power(7, 6), power(16, 6));
        six.grip(0, 1, 16);
        dueHolds(six, 0, 0, 6, 1, 1);
    }

    @Says(promise = 19, words = {"HOLDS: above, below.", "BAD. (As the least long.)"})
    static void holdsTellsAboveAndBelow() {
        HandInHand x = with("08", "ab", "e");
        due("above", x.holds(0, 0, 1, 0), 3);
        due("below", x.holds(0, 0, 1, 1), 4);
        due("ahead of these", x.holds(0, 0, 1, -1), -9223372036854775806L);
        due("behind these", x.holds(0, 0, 1, 2), -9223372036854775806L);
        due("no such joint", x.holds(1, 0, 1, 0), -9223372036854775806L);
        due("no such joint", x.holds(-1, 0, 1, 0), -9223372036854775806L);
    }

    @Says(promise = 0, words =
        "ALIKE: the chance that all in ORDER go by the same side of a post, left by HABIT sixteenths, each by itself:")
    static void alikeAtTheBoundsOfHabits() {
        HandInHand x = with("", "abcde", "");
        dueFraction("five of 8", x.alike(0), x.alike(1), 1, 16);
        for (int person = 0; person < 5; person++) {
            x.person(person, 0, 1);
        }
        dueFraction("five of 1", x.alike(0), x.alike(1), 47461, 65536);
        for (int person = 0; person < 5; person++) {
            x.person(person, 0, 16);
        }
        dueFraction("all left", x.alike(0), x.alike(1), 1, 1);
        x.person(4, 0, 0);
        dueFraction("one right", x.alike(0), x.alike(1), 0, 1);
        x.undo(1);
        dueFraction("that one does not go", x.alike(0), x.alike(1), 1, 1);
        for (int person = 0; person < 5; person++) {
            x.person(person, 0, 0);
        }
        dueFraction("all right", x.alike(0), x.alike(1), 1, 1);
    }

    @Says(promise = 0, words = "a FRACTION (1 by 1 of none).")
    static void alikeOfNoneAndOfOneIsOne() {
        HandInHand x = new HandInHand();
        dueFraction("none", x.alike(0), x.alike(1), 1, 1);
        x.type(1, 'c');
        x.person(2, 0, 5);
        dueFraction("one", x.alike(0), x.alike(1), 1, 1);
        x.type(1, 'c');
        dueFraction("none, by a fault", x.alike(0), x.alike(1), 1, 1);
    }

    @Says(promise = 20, words = {"ALIKE: above, below.", "BAD. (As the least long.)"})
    static void alikeTellsAboveAndBelow() {
        HandInHand x = with("", "ab", "");
        due("above", x.alike(0), 1);
        due("below", x.alike(1), 2);
        due("ahead of these", x.alike(-1), -9223372036854775806L);
        due("behind these", x.alike(2), -9223372036854775806L);
        due("bad also of none", new HandInHand().alike(2), -9223372036854775806L);
    }
}
