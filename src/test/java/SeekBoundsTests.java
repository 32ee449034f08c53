/** Boundary sentences on seeking, meeting and counting: promises 25 to 30, and the terms these stand on. */
public final class SeekBoundsTests extends Bounds {
    private SeekBoundsTests() {
    }

    public static void main(String[] args) throws ReflectiveOperationException {
        Check.runAll(SeekBoundsTests.class);
        Check.end();
    }

    /** Pairs of a place and a weight. */
    private static HandInHand looking(String fair, int... looks) {
        HandInHand x = fairOf(fair);
        for (int k = 0; k < looks.length; k += 2) {
            x.look(looks[k], looks[k + 1]);
        }
        return x;
    }

    private static void dueSeek(String call, HandInHand x, int person, long above, long below, int... row) {
        dueFraction(call, x.seek(person, -2), x.seek(person, NONE), above, below);
        for (int i = 0; i < 5; i++) {
            due(call + ", look " + i, x.seek(person, i), i < row.length ? row[i] : NONE);
        }
    }

    // ---- looks

    @Says(promise = 0, words = "LOOKS, 5 at most (0 on): a PLACE (0 to 63) where the lost one is by a WEIGHT (1 to 9).")
    static void looksAreFiveAtMost() {
        HandInHand x = new HandInHand();
        due("a place below", x.look(-1, 1), BAD);
        due("a place beyond", x.look(64, 1), BAD);
        due("a weight below", x.look(0, 0), BAD);
        due("a weight beyond", x.look(0, 10), BAD);
        due("none yet", x.count(7), 0);
        due("the least place and weight", x.look(0, 1), 1);
        due("the most", x.look(63, 9), 2);
        due("where no place is", x.look(40, 5), 3);
        due("the same once more", x.look(40, 5), 4);
        due("the fifth", x.look(40, 5), 5);
        due("the sixth", x.look(40, 5), FULL);
        due("five", x.count(7), 5);
    }

    @Says(promise = 25, words = {"A LOOK more: how many.", "BAD; FULL."})
    static void lookIsFullWithFive() {
        HandInHand x = looking("00", 0, 1, 1, 2, 0, 3, 1, 4);
        due("the fifth", x.look(0, 5), 5);
        due("full", x.look(0, 6), FULL);
        due("full of what is no place too", x.look(63, 6), FULL);
        due("bad ahead of full", x.look(64, 6), BAD);
        due("bad ahead of full", x.look(0, 10), BAD);
        // Weights 2 and 4 are a step away, of 15 in all.
        dueFraction("looks are as before", x.seek(0, -2), x.seek(0, NONE), 2, 5);
        x.forget();
        due("room again", x.look(0, 1), 1);
    }

    @Says(promise = 26, words = "All LOOKS are forgotten: how many.")
    static void forgetTellsNoneAndFive() {
        HandInHand x = new HandInHand();
        due("none", x.forget(), 0);
        for (int k = 0; k < 5; k++) {
            x.look(k, 1);
        }
        due("five", x.forget(), 5);
        due("none left", x.count(7), 0);
        due("none again", x.forget(), 0);
        due("nothing to seek", x.seek(0, 0), LONG_NOT);
    }

    // ---- seek

    @Says(promise = 0, words = {
        "SEEK from where a PERSON STANDS: all LOOKS one behind the other by NEAR ways:",
        "the row by which the mean (by WEIGHTS) of how many steps it takes to each is least,",
        "the mean: a FRACTION; the i-th LOOK."})
    static void seekOfOneAndOfFive() {
        dueSeek("one, here", looking("0", 0, 9), 0, 0, 1, 0);
        dueSeek("one, far", looking(SQUARE, 63, 9), 0, 14, 1, 0);
        HandInHand five = looking(ROW, 5, 1, 4, 1, 3, 1, 2, 1, 1, 1);
        dueSeek("five in a row", five, 4, 3, 1, 4, 3, 2, 1, 0);
        HandInHand same = looking(ROW, 7, 9, 7, 9, 7, 9, 7, 9, 7, 9);
        dueSeek("five at one place", same, 2, 7, 1, 0, 1, 2, 3, 4);
        HandInHand heavy = looking(ROW, 2, 1, 7, 9);
        heavy.person(0, 1, 3);
        // Nine times 4 and once 4 and 5, by ten.
        dueSeek("a weight of nine is sought first", heavy, 0, 9, 2, 1, 0);
        HandInHand light = looking(ROW, 2, 1, 7, 1);
        light.person(0, 1, 3);
        dueSeek("a weight of one", light, 0, 1 + 6, 2, 0, 1);
    }

    @Says(promise = 0, words = "of like ones the least row of LOOKS:")
    static void seekIsTheLeastRowOfLikeOnes() {
        HandInHand x = looking(ROW, 5, 1, 1, 1);
        x.person(0, 1, 3);
        dueSeek("both sides alike", x, 0, 4, 1, 0, 1);
        HandInHand y = looking("00;00", 9, 1, 8, 1, 1, 1);
        dueSeek("around a square", y, 0, 2, 1, 1, 0, 2);
        HandInHand z = looking("0", 0, 3, 0, 1, 0, 9);
        dueSeek("no steps at all", z, 0, 0, 1, 0, 1, 2);
    }

    @Says(promise = 27, words = "SEEK: the mean: above (i = -2), below (NONE), the i-th LOOK (0 to 4; NONE).")
    static void seekTakesMinusTwoToFour() {
        HandInHand x = looking(ROW, 1, 1, 2, 1);
        due("below", x.seek(0, -3), LONG_BAD);
        due("above", x.seek(0, -2), 3);
        due("below the line", x.seek(0, -1), 2);
        due("the first", x.seek(0, 0), 0);
        due("the last", x.seek(0, 1), 1);
        due("behind the last", x.seek(0, 2), NONE);
        due("the fifth of two", x.seek(0, 4), NONE);
        due("beyond", x.seek(0, 5), LONG_BAD);
        due("no person below", x.seek(-1, 0), LONG_BAD);
        due("the last person", x.seek(4, 0), 0);
        due("no person beyond", x.seek(5, 0), LONG_BAD);
    }

    @Says(promise = 0, words = "NOT: there are no LOOKS, or from where one STANDS no way goes to some LOOK")
    static void seekIsNotWithoutLooksOrWays() {
        HandInHand x = fairOf("00#0");
        for (int i = -2; i <= 4; i++) {
            due("no looks " + i, x.seek(0, i), LONG_NOT);
        }
        x.look(1, 1);
        due("a way", x.seek(0, -2), 1);
        x.look(3, 1);
        for (int i = -2; i <= 4; i++) {
            due("no way to the second " + i, x.seek(0, i), LONG_NOT);
        }
        x.person(1, 1, 3);
        due("no way to the first", x.seek(1, -2), LONG_NOT);
    }

    @Says(promise = 0, words = "(or it is no PLACE, also of one who takes none).")
    static void seekIsNotWhereNoPlaceIs() {
        for (int place : new int[] {1, 2, 8, 63}) {
            HandInHand x = looking("0#", place, 1);
            due("a look at " + place, x.seek(0, -2), LONG_NOT);
            HandInHand y = looking("0#", 0, 1);
            y.person(0, 1, place);
            due("stands at " + place, y.seek(0, -2), LONG_NOT);
            HandInHand both = looking("0#", place, 1);
            both.person(0, 1, place);
            due("stands and looks at " + place, both.seek(0, -2), LONG_NOT);
            both.look(0, 1);
            due("one look that is no place", both.parted(1, 0, 2), LONG_NOT);
            due("one who would take none", y.parted(1, 0, 2), LONG_NOT);
            due("one who would take none, first", y.parted(0, 1, 2), LONG_NOT);
        }
    }

    @Says(promise = 27, words = "BAD; NOT. (As the least long.)")
    static void seekIsBadAheadOfNot() {
        HandInHand x = new HandInHand();
        due("not", x.seek(0, 0), -9223372036854775805L);
        due("bad", x.seek(0, 5), -9223372036854775806L);
        due("bad", x.seek(0, -3), -9223372036854775806L);
        due("bad", x.seek(5, 0), -9223372036854775806L);
        due("bad", x.seek(-1, 0), -9223372036854775806L);
    }

    // ---- parted

    private static void dueParted(String call, HandInHand x, int a, int b, long above, long below, int bits) {
        dueFraction(call, x.parted(a, b, 0), x.parted(a, b, 1), above, below);
        due(call + ", bits", x.parted(a, b, 2), bits);
    }

    @Says(promise = 0, words = {
        "PARTED: two PERSONS, each LOOK goes to one of these, each goes by the row that is best for its own:",
        "that by which the mean is least,", "the mean; these bits."})
    static void partedFromNoneToAllLooks() {
        HandInHand x = looking(ROW, 0, 1, 0, 2, 0, 3, 0, 4, 0, 5);
        x.person(1, 1, 7);
        dueParted("the first takes all five", x, 0, 1, 0, 1, 31);
        dueParted("the first takes none", x, 1, 0, 0, 1, 0);
        HandInHand y = looking(ROW, 7, 1, 1, 1, 6, 1, 0, 1, 5, 1);
        y.person(4, 1, 7);
        dueParted("each its own side", y, 0, 4, 1 + 0 + 0 + 1 + 2, 5, 2 + 8);
        dueParted("the other way", y, 4, 0, 4, 5, 1 + 4 + 16);
        HandInHand one = looking(ROW, 3, 9);
        one.person(4, 1, 7);
        dueParted("one look", one, 0, 4, 3, 1, 1);
    }

    @Says(promise = 0, words = "of like ones the least bits of what the first one takes:")
    static void partedIsTheLeastBitsOfLikeOnes() {
        dueParted("one look, both alike", looking("00", 1, 1), 0, 1, 1, 1, 0);
        dueParted("two looks at one place", looking("00", 1, 1, 1, 1), 0, 1, 1, 1, 0);
        HandInHand x = looking("000", 0, 1, 2, 1);
        for (int person = 0; person < 5; person++) {
            x.person(person, 1, 1);
        }
        dueParted("one to each side", x, 2, 3, 1, 1, 1);
        dueParted("one to each side", x, 3, 2, 1, 1, 1);
        dueParted("no steps at all", looking("0", 0, 1, 0, 2, 0, 3, 0, 4, 0, 5), 4, 3, 0, 1, 0);
    }

    @Says(promise = 28, words = {
        "PARTED: the mean: above (what = 0), below (1), what the first one takes, as bits (2).",
        "BAD: also one with itself; NOT. (As the least long.)"})
    static void partedTakesTwoPersonsAndThreeThings() {
        HandInHand x = looking("00", 1, 1);
        due("ahead of these", x.parted(0, 1, -1), LONG_BAD);
        due("above", x.parted(0, 1, 0), 1);
        due("below", x.parted(0, 1, 1), 1);
        due("bits", x.parted(0, 1, 2), 0);
        due("behind these", x.parted(0, 1, 3), LONG_BAD);
        for (int person = 0; person < 5; person++) {
            due("with itself " + person, x.parted(person, person, 0), LONG_BAD);
            due("with none below", x.parted(person, -1, 0), LONG_BAD);
            due("with none beyond", x.parted(person, 5, 0), LONG_BAD);
            due("none below", x.parted(-1, person, 0), LONG_BAD);
            due("none beyond", x.parted(5, person, 0), LONG_BAD);
        }
        due("the least and the most", x.parted(0, 4, 0), 1);
        due("the most and the least", x.parted(4, 0, 0), 1);
        x.forget();
        due("bad ahead of not", x.parted(0, 0, 0), -9223372036854775806L);
        due("bad ahead of not", x.parted(0, 1, 3), -9223372036854775806L);
        due("not", x.parted(0, 1, 2), -9223372036854775805L);
    }

    @Says(promise = 0, words = "NOT: there are no LOOKS, or from where one STANDS no way goes to some LOOK")
    static void partedIsNotWhereEitherHasNoWay() {
        HandInHand x = looking("0#0", 0, 1);
        dueParted("both stand at it", x, 0, 1, 0, 1, 0);
        x.person(1, 1, 2);
        for (int what = 0; what < 3; what++) {
            due("no way for the second", x.parted(0, 1, what), LONG_NOT);
            due("no way for the first", x.parted(1, 0, what), LONG_NOT);
        }
        due("others have one", x.parted(0, 2, 0), 0);
        x.look(2, 1);
        due("each could take one", x.parted(0, 1, 0), LONG_NOT);
    }

    // ---- meet

    @Says(promise = 0, words = "MEET of PERSONS told as bits (one at least):")
    static void meetTakesOneToFivePersons() {
        HandInHand x = fairOf(ROW);
        for (int person = 0; person < 5; person++) {
            x.person(person, 1, 7 - person);
            due("one alone", x.meet(1 << person, 0), 7 - person);
            due("one alone, how far", x.meet(1 << person, 1), 0);
        }
        due("nobody", x.meet(0, 0), BAD);
        due("all five", x.meet(31, 0), 5);
        due("all five, how far", x.meet(31, 1), 2);
        due("a sixth", x.meet(32, 0), BAD);
        due("a sixth and others", x.meet(33, 0), BAD);
        due("below", x.meet(-1, 0), BAD);
        due("far below", x.meet(LOW + 1, 0), BAD);
    }

    @Says(promise = 0, words = {
        "the PLACE to which the greatest NEAR from where each STANDS is least, of like ones the least: which; how far;"})
    static void meetIsTheLeastOfLikePlaces() {
        HandInHand x = fairOf(ROW);
        x.person(1, 1, 1);
        due("side by side", x.meet(3, 0), 0);
        due("how far", x.meet(3, 1), 1);
        HandInHand y = fairOf(SQUARE);
        y.person(1, 1, 63);
        due("from corner to corner", y.meet(3, 0), 7);
        due("how far", y.meet(3, 1), 7);
        HandInHand z = fairOf("#0;00");
        z.person(0, 1, 1);
        z.person(1, 1, 8);
        due("the first place is a post", z.meet(3, 0), 9);
    }

    @Says(promise = 0, words = "NONE: there is none.")
    static void meetIsNoneWhereNoPlaceIsForAll() {
        HandInHand x = fairOf("0#0");
        x.person(1, 1, 2);
        x.person(2, 1, 1);
        x.person(3, 1, 63);
        for (int what = 0; what < 2; what++) {
            due("no way", x.meet(3, what), NONE);
            due("at a post", x.meet(4, what), NONE);
            due("nowhere", x.meet(8, what), NONE);
            due("one of them nowhere", x.meet(1 + 8 + 16, what), NONE);
            due("those who can", x.meet(1 + 16, what), 0);
            due("no fair", new HandInHand().meet(1, what), NONE);
            due("posts alone", fairOf("#").meet(31, what), NONE);
        }
    }

    @Says(promise = 29, words = {"MEET: the PLACE (what = 0), how far (1); NONE.", "BAD."})
    static void meetTakesTwoThings() {
        HandInHand x = fairOf("#00");
        x.person(0, 1, 1);
        x.person(1, 1, 2);
        due("ahead of these", x.meet(3, -1), BAD);
        due("the place", x.meet(3, 0), 1);
        due("how far", x.meet(3, 1), 1);
        due("behind these", x.meet(3, 2), BAD);
        due("bad ahead of none", new HandInHand().meet(1, 2), BAD);
        due("bad ahead of none", new HandInHand().meet(0, 0), BAD);
    }

    // ---- counts

    @Says(promise = 0, words = {
        "COUNT: n (1 to 60) such that, for t steps (1 to 99), counting every n steps,",
        "and l (0 to 99) times n less 1 are least together,"})
    static void countGoesFromOneToSixty() {
        HandInHand x = new HandInHand();
        due("one step", x.counts(1, 1, 0), 1);
        due("fifty-nine steps", x.counts(59, 1, 0), 59);
        due("sixty steps", x.counts(60, 1, 0), 60);
        due("sixty-one steps: two times", x.counts(61, 1, 0), 31);
        due("ninety-nine steps: two times", x.counts(99, 99, 0), 50);
        due("steps less than l", x.counts(99, 1, 99), 1);
        due("all at their most", x.counts(99, 99, 99), 9);
        due("counting is dear", x.counts(60, 99, 1), 60);
    }

    @Says(promise = 0, words = "c (0 to 99) for each time (t by n, and one more if there is a rest),")
    static void countHasOneMoreIfThereIsARest() {
        HandInHand x = new HandInHand();
        // n 1, 2, 3: 6, 2 times 2 and 1, 2 and 2. Without the rest 2 would cost 3.
        due("three steps", x.counts(3, 2, 1), 3);
        // n 1, 2, 4: 4 c, 2 c and l, c and 3 l; no rest.
        due("four steps", x.counts(4, 3, 2), 2);
        // n 2, 3: 3 c and l, 2 c and 2 l: 3 takes two times, the second of two steps.
        due("five steps", x.counts(5, 4, 3), 3);
        due("counting is free", x.counts(99, 0, 99), 1);
    }

    @Says(promise = 0, words = "of like ones the least n.")
    static void countIsTheLeastOfLikeOnes() {
        HandInHand x = new HandInHand();
        due("all free", x.counts(99, 0, 0), 1);
        due("one or two", x.counts(2, 3, 3), 1);
        due("two by a hair", x.counts(2, 4, 3), 2);
        due("from one on all alike", x.counts(1, 99, 0), 1);
        due("from fifty on all alike", x.counts(99, 1, 0), 50);
    }

    @Says(promise = 30, words = {"COUNT.", "BAD."})
    static void countsHasItsBounds() {
        HandInHand x = new HandInHand();
        due("t below", x.counts(0, 1, 1), BAD);
        due("t the least", x.counts(1, 1, 1), 1);
        due("t the most", x.counts(99, 0, 1), 1);
        due("t beyond", x.counts(100, 1, 1), BAD);
        due("c below", x.counts(1, -1, 1), BAD);
        due("c the least", x.counts(1, 0, 1), 1);
        due("c the most", x.counts(1, 99, 1), 1);
        due("c beyond", x.counts(1, 100, 1), BAD);
        due("l below", x.counts(1, 1, -1), BAD);
        due("l the least", x.counts(1, 1, 0), 1);
        due("l the most", x.counts(1, 1, 99), 1);
        due("l beyond", x.counts(1, 1, 100), BAD);
    }
}
