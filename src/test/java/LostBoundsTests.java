/** Boundary sentences on what tears and where the lost one is: promises 21 to 24, and the terms these stand on. */
public final class LostBoundsTests extends Bounds {
    private static final int[] SEEDS = {0, 1, 2, 3, 7, 8, 100, 12345, -1, -2, -12345, LOW, LOW + 1, HIGH, HIGH - 1};

    private LostBoundsTests() {
    }

    public static void main(String[] args) throws ReflectiveOperationException {
        Check.runAll(LostBoundsTests.class);
        Check.end();
    }

    /** LOTS of 16 from a SEED on, found without ints that wrap. */
    private static int[] lots(int seed, int n) {
        long two32 = 1L << 32, s = Math.floorMod((long) seed, two32);
        int[] lots = new int[n];
        for (int k = 0; k < n; k++) {
            s = (1103515245L * s + 12345) % two32;
            lots[k] = (int) (s / 65536 % 16);
        }
        return lots;
    }

    private static HandInHand twoPersons(int dense, int grip, int steps) {
        HandInHand x = with("" + dense + dense, "ab", "ew".repeat(20).substring(0, steps));
        x.grip(0, 1, grip);
        return x;
    }

    // ---- torn

    @Says(promise = 0, words = {
        "LOTS of m: SEED becomes 1103515245 SEED and 12345, as ints that wrap;",
        "its upper 16 bits as a number from 0 on, modulo m."})
    static void lotsWrapAndAreNeverBelowZero() {
        for (int seed : SEEDS) {
            int[] lots = lots(seed, 2);
            HandInHand never = twoPersons(9, 16, 1);
            due("a full grip holds, by " + seed, never.torn(seed, 2), 0);
            for (int grip = 0; grip <= 16; grip++) {
                boolean tears = lots[0] < 9 && lots[1] >= grip;
                due("torn by " + seed + ", grip " + grip, twoPersons(9, grip, 1).torn(seed, 2), tears ? 1 : 0);
            }
        }
    }

    @Says(promise = 0, words = {
        "TORN by a SEED: step by step (those that are done), in each JOINT by JOINT",
        "a LOT of 16, if it is less than DENSE of where the step goes,",
        "then another LOT of 16: if that is not less than GRIP, the JOINT is torn:"})
    static void tornJustBelowDenseAndJustNotBelowGrip() {
        for (int seed = 0; seed < 200; seed++) {
            int[] lots = lots(seed, 2);
            if (lots[0] < 9) {
                due("a lot like dense does not press", twoPersons(lots[0], 0, 1).torn(seed, 2), 0);
                due("one more does", twoPersons(lots[0] + 1, 0, 1).torn(seed, 2), 1);
                due("a lot like grip tears", twoPersons(9, lots[1], 1).torn(seed, 2), 1);
                due("one more grip holds", twoPersons(9, lots[1] + 1, 1).torn(seed, 2), 0);
            }
        }
    }

    @Says(promise = 0, words = "(those that are whole still):")
    static void tornJointsTakeNoLots() {
        int differs = 0;
        for (int seed = 0; seed < 60; seed++) {
            int[] lots = lots(seed, 12);
            int k = 0, together = 0, first = NONE;
            for (int fair = 0; fair < 2; fair++) {
                boolean torn = false;
                for (int step = 0; step < 3 && !torn; step++) {
                    torn = lots[k++] < 9 && lots[k++] >= 8;
                    first = torn && fair == 0 ? step : first;
                }
                differs += torn ? 1 : 0;
                together += torn ? 1 : 0;
            }
            HandInHand x = twoPersons(9, 8, 3);
            due("two fairs by " + seed, x.fairs(seed, 2), together);
            due("the step by " + seed, x.torn(seed, 1), first);
        }
        that("some were torn", differs > 20);
    }

    @Says(promise = 0, words = "the first JOINT that is torn, its step (NONE), how many are torn at the end;")
    static void tornTellsNoneUpToAllJoints() {
        HandInHand x = with("99", "abcde", "ew".repeat(20));
        for (int a = 0; a < 4; a++) {
            x.grip(a, a + 1, 0);
        }
        for (int seed : SEEDS) {
            due("all four are torn in forty steps, by " + seed, x.torn(seed, 2), 4);
        }
        HandInHand calm = with("90", "abcde", "e");
        for (int seed : SEEDS) {
            due("no joint", calm.torn(seed, 0), NONE);
            due("no step", calm.torn(seed, 1), NONE);
            due("none", calm.torn(seed, 2), 0);
        }
        int[] lots = lots(0, 2);
        due("the first lot by 0", lots[0], 0);
        HandInHand y = twoPersons(1, lots[1], 1);
        due("the first joint", y.torn(0, 0), 0);
        due("the first step", y.torn(0, 1), 0);
    }

    @Says(promise = 0, words = "LOST: PERSONS behind the first JOINT that is torn, as bits (0).")
    static void lostAreThoseBehindTheFirstTornJoint() {
        String order = "dbeac";
        int[] behind = {2 + 16 + 1 + 4, 16 + 1 + 4, 1 + 4, 4};
        for (int loose = 0; loose < 4; loose++) {
            HandInHand x = with("99", order, "ew".repeat(20));
            for (int j = 0; j < 4; j++) {
                x.grip(order.charAt(j) - 'a', order.charAt(j + 1) - 'a', j == loose ? 0 : 16);
            }
            due("the joint", x.torn(5, 0), loose);
            due("those behind " + loose, x.torn(5, 3), behind[loose]);
            x.grip(order.charAt(loose) - 'a', order.charAt(loose + 1) - 'a', 16);
            due("nobody", x.torn(5, 3), 0);
        }
    }

    @Says(promise = 21, words = {
        "TORN: the first JOINT (what = 0; NONE), its step (1; NONE), how many (2), LOST as bits (3).", "BAD."})
    static void tornTakesFourThingsAndAnySeed() {
        HandInHand x = twoPersons(9, 0, 1);
        due("ahead of these", x.torn(0, -1), BAD);
        due("behind these", x.torn(0, 4), BAD);
        int[] torn = {0, 0, 1, 2}, whole = {NONE, NONE, 0, 0};
        for (int seed : SEEDS) {
            int[] answers = lots(seed, 1)[0] < 9 ? torn : whole;
            for (int what = 0; what < 4; what++) {
                due("torn " + seed + " " + what, x.torn(seed, what), answers[what]);
            }
        }
        HandInHand nobody = new HandInHand();
        for (int what = 0; what < 4; what++) {
            due("of nobody " + what, nobody.torn(0, what), whole[what]);
        }
        HandInHand halted = with("9#", "ab", "e");
        due("a step that is not done tears nothing", halted.torn(0, 2), 0);
    }

    @Says(promise = 0, words = {
        "MEAN TORN of n (1 to 60) fairs one behind the other (the SEED going on):",
        "all JOINTS that are torn, together."})
    static void fairsGoOnWithTheSeed() {
        for (int seed : SEEDS) {
            int[] lots = lots(seed, 120);
            HandInHand x = twoPersons(9, 8, 1);
            int k = 0, together = 0;
            for (int n = 1; n <= 60; n++) {
                together += lots[k++] < 9 && lots[k++] >= 8 ? 1 : 0;
                if (n <= 3 || n >= 59) {
                    due("fairs " + seed + " " + n, x.fairs(seed, n), together);
                }
            }
            due("one fair is like torn", x.fairs(seed, 1), x.torn(seed, 2));
        }
    }

    @Says(promise = 22, words = {"MEAN TORN.", "BAD."})
    static void fairsTakesOneToSixty() {
        HandInHand x = with("99", "abcde", "ew".repeat(20));
        for (int a = 0; a < 4; a++) {
            x.grip(a, a + 1, 0);
        }
        due("below", x.fairs(0, 0), BAD);
        due("far below", x.fairs(0, LOW), BAD);
        due("the least", x.fairs(0, 1), 4);
        due("the most", x.fairs(0, 60), 240);
        due("beyond", x.fairs(0, 61), BAD);
        due("far beyond", x.fairs(0, HIGH), BAD);
        due("of nobody", new HandInHand().fairs(0, 60), 0);
        due("of nobody, beyond", new HandInHand().fairs(0, 61), BAD);
    }

    // ---- lost

    private static void dueIs(HandInHand x, int from, int minutes, int place, long above, long below) {
        dueFraction("is " + from + " " + minutes + " " + place,
                x.is(from, minutes, place, 0), x.is(from, minutes, place, 1), above, below);
    }

    private static HandInHand byRule(String fair, int rule, int clock) {
        HandInHand x = fairOf(fair);
        x.set(2, rule);
        x.set(1, clock);
        return x;
    }

    @Says(promise = 0, words = {
        "IS: where a lost one is m (0 to 5) minutes behind being at a PLACE, by RULE: 0 there;",
        "the chance of a PLACE: a FRACTION;"})
    static void isTakesZeroToFiveMinutes() {
        for (int rule = 0; rule < 3; rule++) {
            HandInHand x = byRule(ROW, rule, 7);
            due("fewer than none", x.is(0, -1, 0, 0), LONG_BAD);
            dueIs(x, 0, 0, 0, 1, 1);
            dueIs(x, 0, 0, 1, 0, 1);
            due("five", x.is(0, 5, 7, 0), 0);
            due("six", x.is(0, 6, 0, 0), LONG_BAD);
        }
        HandInHand stays = byRule(ROW, 0, 7);
        for (int minutes = 0; minutes <= 5; minutes++) {
            dueIs(stays, 3, minutes, 3, 1, 1);
            dueIs(stays, 3, minutes, 2, 0, 1);
        }
    }

    @Says(promise = 0, words = "1 each minute at one of that PLACE and PLACES side by side with it, each alike;")
    static void wanderingIsBoundedByPostsAndEdges() {
        dueIs(byRule("#0#", 1, 0), 1, 5, 1, 1, 1);
        dueIs(byRule("00", 1, 0), 0, 5, 1, 1, 2);
        dueIs(byRule("00#", 1, 0), 0, 1, 0, 1, 2);
        dueIs(byRule("000;000;000", 1, 0), 9, 1, 9, 1, 5);
        dueIs(byRule("000;000;000", 1, 0), 1, 1, 9, 1, 4);
        dueIs(byRule("000;000;000", 1, 0), 0, 1, 9, 0, 1);
        dueIs(byRule("000;0#0;000", 1, 0), 1, 1, 2, 1, 3);
        HandInHand row = byRule(ROW + ";########;" + ROW, 1, 0);
        dueIs(row, 0, 5, 5, 1, 2 * 81);
        dueIs(row, 0, 4, 5, 0, 1);
        dueIs(row, 0, 5, 6, 0, 1);
        dueIs(row, 7, 1, 6, 1, 2);
        dueIs(row, 7, 5, 16, 0, 1);
        HandInHand square = byRule(SQUARE, 1, 0);
        // Four steps to the edge and a rest: four times a fifth each minute, but a rest at the edge is a fourth.
        dueIs(square, 27, 5, 31, 21, 12500);
        dueIs(square, 7, 1, 8, 0, 1);
    }

    @Says(promise = 0, words =
        "2 on the way to the CLOCK (each minute to a PLACE that is NEARER to it, of these the first of n, e, s, w;")
    static void onTheWayToTheClock() {
        HandInHand x = byRule(SQUARE, 2, 63);
        for (int minutes = 0; minutes <= 5; minutes++) {
            dueIs(x, 0, minutes, minutes, 1, 1);
        }
        x.set(1, 7);
        dueIs(x, 56, 1, 48, 1, 1);
        x.set(1, 0);
        dueIs(x, 63, 5, 23, 1, 1);
        x.set(1, 56);
        dueIs(x, 7, 5, 47, 1, 1);
        x.set(1, 8);
        dueIs(x, 11, 1, 10, 1, 1);
        dueIs(x, 11, 1, 3, 0, 1);
    }

    @Says(promise = 0, words = "there, or where no way goes, it stays):")
    static void staysAtTheClockAndWhereNoWayGoes() {
        HandInHand x = byRule("00#0", 2, 1);
        dueIs(x, 1, 5, 1, 1, 1);
        dueIs(x, 0, 1, 1, 1, 1);
        dueIs(x, 0, 5, 1, 1, 1);
        dueIs(x, 3, 5, 3, 1, 1);
        for (int clock : new int[] {2, 4, 8, 63}) {
            x.set(1, clock);
            dueIs(x, 0, 5, 0, 1, 1);
            due("likeliest", x.likeliest(3, 5), 3);
        }
    }

    @Says(promise = 23, words = {"IS: above, below.", "BAD. (As the least long.)"})
    static void isBadOfNoPlacesAndNoSuchThing() {
        HandInHand x = byRule("0#0", 1, 0);
        due("ahead of above and below", x.is(0, 0, 0, -1), LONG_BAD);
        due("behind these", x.is(0, 0, 0, 2), LONG_BAD);
        for (int place : new int[] {-1, 1, 3, 8, 63, 64, LOW, HIGH}) {
            due("from " + place, x.is(place, 0, 0, 0), LONG_BAD);
            due("at " + place, x.is(0, 0, place, 0), LONG_BAD);
        }
        due("of no fair", new HandInHand().is(0, 0, 0, 0), -9223372036854775806L);
    }

    @Says(promise = 0, words = "LIKELIEST: the PLACE with the greatest chance, of like ones the least.")
    static void likeliestIsTheLeastOfLikeOnes() {
        HandInHand x = byRule(SQUARE, 1, 0);
        due("all five alike", x.likeliest(63 - 9, 1), 63 - 17);
        due("a corner", x.likeliest(63, 1), 55);
        due("not yet", x.likeliest(63, 0), 63);
        due("two alike for ever", byRule("#00", 1, 0).likeliest(2, 5), 1);
        due("the last place by its clock", byRule(SQUARE, 2, 63).likeliest(61, 5), 63);
        due("the greatest, not the least", byRule("000", 1, 0).likeliest(1, 2), 1);
    }

    @Says(promise = 24, words = {"LIKELIEST.", "BAD."})
    static void likeliestTakesZeroToFiveMinutesFromAPlace() {
        for (int rule = 0; rule < 3; rule++) {
            HandInHand x = byRule("#0", rule, 1);
            due("fewer than none", x.likeliest(1, -1), BAD);
            due("none", x.likeliest(1, 0), 1);
            due("five", x.likeliest(1, 5), 1);
            due("six", x.likeliest(1, 6), BAD);
            for (int place : new int[] {-1, 0, 2, 9, 63, 64, LOW, HIGH}) {
                due("from " + place, x.likeliest(place, 0), BAD);
            }
        }
        due("of no fair", new HandInHand().likeliest(0, 0), BAD);
    }
}
