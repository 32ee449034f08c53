import java.math.BigInteger;
import java.util.ArrayList;
import java.util.List;

/** Boundary sentences on sheets, counts and the digest: promises 31 to 38, and the terms these stand on. */
public final class SheetBoundsTests extends Bounds {
    private SheetBoundsTests() {
    }

    public static void main(String[] args) throws ReflectiveOperationException {
        Check.runAll(SheetBoundsTests.class);
        Check.end();
    }

    private static void dueItems(String call, HandInHand x, int s, int form, int... items) {
        for (int i = 0; i < items.length; i++) {
            due(call + ", item " + i, x.get(s, form, i), items[i]);
        }
        due(call + ", behind the last", x.get(s, form, items.length), LOW);
        due(call + ", ahead of the first", x.get(s, form, -1), LOW);
    }

    // ---- terms

    @Says(promise = 0, words = {
        "SHEETS 0 .. 3 are LOST (at first) or a row of a FORM: 0 bytes, 1 shorts, 2 ints,",
        "of 0 to 64 items (0 at first)."})
    static void sheetsAndFormsAndItemsHaveTheirBounds() {
        HandInHand x = new HandInHand();
        for (int s = -1; s <= 4; s++) {
            due("lost at first " + s, x.lose(s), s < 0 || s > 3 ? BAD : NULL);
            due("made " + s, x.sheet(s, 0, 1), s < 0 || s > 3 ? BAD : 1);
        }
        for (int form = -1; form <= 3; form++) {
            due("form " + form, x.sheet(0, form, 2), form < 0 || form > 2 ? BAD : 2);
        }
        for (int form = 0; form < 3; form++) {
            HandInHand y = new HandInHand();
            due("no items", y.sheet(0, form, 0), 0);
            dueItems("no items", y, 0, form);
            due("below", y.sheet(0, form, -1), SIZE);
            due("all items", y.sheet(1, form, 64), 64);
            dueItems("all items", y, 1, form, new int[64]);
            due("beyond", y.sheet(1, form, 65), BAD);
        }
    }

    @Says(promise = 0, words = {
        "FINDINGS (answers -10 less the number; they change nothing but count() 8):", "1 NULL: the SHEET is LOST;"})
    static void findingNullOfALostSheet() {
        HandInHand x = fairOf("0");
        x.sheet(0, 0, -1);
        due("another finding", x.count(8), 5);
        due("read", x.read(0), -11);
        due("its number", x.count(8), 1);
        x.sheet(0, 0, 1);
        due("made: found no more", x.read(0), 1);
        due("the number stays", x.count(8), 1);
        x.lose(0);
        due("lost again", x.lay(0, 0, 0, 0), -11);
    }

    @Says(promise = 0, words = "2 INDEX: there is no such item;")
    static void findingIndexOfNoSuchItem() {
        HandInHand x = withItems(0, 2, 7);
        due("ahead of the first", x.lay(0, 2, -1, 1), -12);
        due("its number", x.count(8), 2);
        due("the first and last", x.lay(0, 2, 0, 8), 1);
        due("behind the last", x.lay(0, 2, 1, 1), -12);
        x.sheet(0, 2, 0);
        due("of no items", x.lay(0, 2, 0, 1), -12);
    }

    @Says(promise = 0, words = "3 CAST: it has another FORM;")
    static void findingCastOfAnotherForm() {
        for (int form = 0; form < 3; form++) {
            HandInHand x = withItems(0, form, 7);
            for (int asked = 0; asked < 3; asked++) {
                due("lay " + form + " as " + asked, x.lay(0, asked, 0, 7), asked == form ? 1 : -13);
                due("get " + form + " as " + asked, x.get(0, asked, 0), asked == form ? 7 : LOW);
            }
            due("its number", x.count(8), 3);
        }
    }

    @Says(promise = 0, words = "4 STORE: unlike FORMS;")
    static void findingStoreOfUnlikeForms() {
        for (int from = 0; from < 3; from++) {
            for (int to = 0; to < 3; to++) {
                HandInHand x = withItems(0, from, 7);
                x.sheet(1, to, 1);
                due("copy " + from + " to " + to, x.copy(0, 0, 1, 0, 1), from == to ? 1 : -14);
                due("its number", x.count(8), from == to ? 0 : 4);
                due("also of no items", x.copy(0, 0, 1, 0, 0), from == to ? 1 : -14);
            }
        }
    }

    @Says(promise = 0, words = "5 SIZE: below 0.")
    static void findingSizeBelowZero() {
        HandInHand x = withItems(0, 2, 7, 8);
        due("none", x.sheet(1, 0, 0), 0);
        due("no finding yet", x.count(8), 0);
        due("below 0", x.sheet(0, 2, -1), -15);
        due("its number", x.count(8), 5);
        due("far below 0", x.sheet(0, 0, LOW), -15);
        dueItems("as it was", x, 0, 2, 7, 8);
    }

    // ---- promises 31 to 36

    @Says(promise = 31, words = {"A SHEET is a new row of a FORM with n items: n.", "BAD: SHEET, FORM, above 64; SIZE."})
    static void sheetIsANewRow() {
        HandInHand x = withItems(3, 2, 1, 2, 3);
        due("made anew, as long", x.sheet(3, 2, 3), 3);
        dueItems("items begin anew", x, 3, 2, 0, 0, 0);
        layAll(x, 3, 2, 1, 2, 3);
        due("shorter", x.sheet(3, 1, 1), 1);
        due("longer", x.sheet(3, 2, 3), 3);
        dueItems("nothing old comes back", x, 3, 2, 0, 0, 0);
        layAll(x, 3, 2, 1, 2, 3);
        x.lose(3);
        x.sheet(3, 2, 3);
        dueItems("nor behind being lost", x, 3, 2, 0, 0, 0);
        due("above 64", x.sheet(3, 0, 65), BAD);
        due("far above", x.sheet(3, 0, HIGH), BAD);
        due("no sheet ahead of size", x.sheet(4, 0, -1), BAD);
        due("no form ahead of size", x.sheet(3, 3, -1), BAD);
        due("size", x.sheet(3, 0, -1), SIZE);
        dueItems("refused, as it was", x, 3, 2, 0, 0, 0);
    }

    @Says(promise = 32, words = {"It is LOST: how many items it had.", "BAD; NULL."})
    static void loseTellsNoneToSixtyFour() {
        HandInHand x = new HandInHand();
        for (int s = 0; s < 4; s++) {
            x.sheet(s, s % 3, s == 0 ? 0 : 61 + s);
        }
        for (int s = 0; s < 4; s++) {
            due("items it had", x.lose(s), s == 0 ? 0 : 61 + s);
            due("it is lost", x.lose(s), NULL);
            due("nothing to get", x.get(s, s % 3, 0), LOW);
        }
        due("below", x.lose(-1), BAD);
        due("beyond", x.lose(4), BAD);
    }

    @Says(promise = 33, words = "Item i, treated as of a FORM, becomes v (the lowest bits that it has): 1.")
    static void layCutsToTheBitsOfTheForm() {
        HandInHand x = new HandInHand();
        for (int form = 0; form < 3; form++) {
            x.sheet(form, form, 2);
        }
        // A number, and what is left of it in a byte, a short, an int.
        int[][] cases = {{0, 0, 0, 0}, {127, 127, 127, 127}, {128, -128, 128, 128}, {255, -1, 255, 255},
            {256, 0, 256, 256}, {-128, -128, -128, -128}, {-129, 127, -129, -129}, {32767, -1, 32767, 32767},
            {32768, 0, -32768, 32768}, {65535, -1, -1, 65535}, {65536, 0, 0, 65536}, {-32768, 0, -32768, -32768},
            {-32769, -1, 32767, -32769}, {HIGH, -1, -1, HIGH}, {LOW, 0, 0, LOW}, {-1, -1, -1, -1}};
        for (int[] c : cases) {
            for (int form = 0; form < 3; form++) {
                due("laid " + c[0] + ", form " + form, x.lay(form, form, 1, c[0]), 1);
                due("kept of " + c[0] + ", form " + form, x.get(form, form, 1), c[1 + form]);
            }
        }
        due("the item aside", x.get(0, 0, 0), 0);
    }

    @Says(promise = 33, words = "BAD; NULL; CAST; INDEX.")
    static void layIsRefusedInItsOrder() {
        HandInHand x = withItems(0, 1, 5, 6);
        due("no sheet", x.lay(4, 0, 0, 0), BAD);
        due("no form ahead of null", x.lay(1, 3, 0, 0), BAD);
        due("null ahead of index", x.lay(1, 0, -1, 0), NULL);
        due("cast ahead of index", x.lay(0, 0, 2, 0), CAST);
        due("index", x.lay(0, 1, 2, 0), INDEX);
        due("index below", x.lay(0, 1, -1, 0), INDEX);
        dueItems("as they were", x, 0, 1, 5, 6);
    }

    @Says(promise = 34, words = {
        "Item i of it.", "BAD: the least int; so are NULL, CAST, INDEX (count() 8 tells)."})
    static void getTellsItsRefusalsByCount8() {
        HandInHand x = withItems(0, 2, LOW, 6);
        due("an item that is the least int", x.get(0, 2, 0), LOW);
        due("no finding", x.count(8), 0);
        due("no sheet below", x.get(-1, 2, 0), LOW);
        due("no sheet beyond", x.get(4, 2, 0), LOW);
        due("no form below", x.get(0, -1, 0), LOW);
        due("no form beyond", x.get(0, 3, 0), LOW);
        due("no form ahead of null", x.get(1, 3, 0), LOW);
        due("bad is no finding", x.count(8), 0);
        due("cast ahead of index", x.get(0, 0, 9), LOW);
        due("cast", x.count(8), 3);
        due("index", x.get(0, 2, 2), LOW);
        due("index", x.count(8), 2);
        due("null ahead of index", x.get(1, 0, -1), LOW);
        due("null", x.count(8), 1);
        due("index below", x.get(0, 2, -1), LOW);
        due("index", x.count(8), 2);
        due("the last item", x.get(0, 2, 1), 6);
        due("the finding stays", x.count(8), 2);
    }

    @Says(promise = 35, words =
        "n items of SHEET s, from i on, come to SHEET t (perhaps s, as they were), from j on: 1.")
    static void copyOfNoneOfAllAndWithinItself() {
        HandInHand x = withItems(0, 1, 1, 2, 3, 4);
        layAll(x, 1, 1, 9, 8, 7, 6);
        due("none", x.copy(0, 0, 1, 0, 0), 1);
        due("none, at the ends", x.copy(0, 4, 1, 4, 0), 1);
        dueItems("none came", x, 1, 1, 9, 8, 7, 6);
        due("the last to the last", x.copy(0, 3, 1, 3, 1), 1);
        dueItems("one came", x, 1, 1, 9, 8, 7, 4);
        due("all", x.copy(0, 0, 1, 0, 4), 1);
        dueItems("all came", x, 1, 1, 1, 2, 3, 4);
        due("in itself, up", x.copy(0, 0, 0, 1, 3), 1);
        dueItems("as they were", x, 0, 1, 1, 1, 2, 3);
        due("in itself, down", x.copy(1, 1, 1, 0, 3), 1);
        dueItems("as they were", x, 1, 1, 2, 3, 4, 4);
        due("in itself, all", x.copy(1, 0, 1, 0, 4), 1);
        dueItems("as they were", x, 1, 1, 2, 3, 4, 4);
    }

    @Says(promise = 35, words = {
        "BAD: the SHEETS; NULL: s, t; STORE;", "INDEX: below 0, not so many."})
    static void copyIsRefusedInItsOrder() {
        HandInHand x = withItems(0, 1, 1, 2, 3, 4);
        layAll(x, 1, 1, 9, 8);
        x.sheet(2, 0, 4);
        for (int s : new int[] {-1, 4, LOW, HIGH}) {
            due("no sheet ahead of null", x.copy(s, -1, 3, 0, 0), BAD);
            due("no sheet behind, ahead of null", x.copy(3, -1, s, 0, 0), BAD);
        }
        due("s is lost, ahead of index", x.copy(3, -1, 0, 0, 0), NULL);
        due("t is lost, ahead of index", x.copy(0, -1, 3, 0, 0), NULL);
        due("store ahead of index", x.copy(0, -1, 2, 0, 0), STORE);
        int[][] wrong = {{-1, 0, 1}, {0, -1, 1}, {0, 0, -1}, {0, 0, 3}, {0, 1, 2}, {3, 0, 2}, {4, 0, 1}, {5, 0, 0},
            {0, 3, 0}, {HIGH, 0, 1}, {0, HIGH, 1}, {1, 1, HIGH}, {HIGH, HIGH, HIGH}, {0, 0, LOW}, {1, 1, LOW},
            {LOW, LOW, LOW}};
        for (int[] w : wrong) {
            due("index " + w[0] + " " + w[1] + " " + w[2], x.copy(0, w[0], 1, w[1], w[2]), INDEX);
        }
        dueItems("as they were", x, 1, 1, 9, 8);
        due("as many as there are", x.copy(0, 2, 1, 0, 2), 1);
        dueItems("two came", x, 1, 1, 3, 4);
    }

    @Says(promise = 36, words = {
        "NEAR of a PLACE to 0 on (NONE, also where no PLACE is) comes to a SHEET from item 0 on,",
        "as many as there are items: how many."})
    static void writeFillsNoneToSixtyFourItems() {
        HandInHand x = fairOf("0#0;000;###;0");
        due("the fair has a fault", x.count(0), 0);
        x = fairOf("0#0;000;###;0##");
        for (int form = 0; form < 3; form++) {
            x.sheet(0, form, 0);
            due("no items", x.write(0, 0), 0);
            x.sheet(0, form, 1);
            due("one item", x.write(10, 0), 1);
            dueItems("one item", x, 0, form, 3);
            x.sheet(0, form, 25);
            due("no way to the last", x.write(0, 0), 25);
            dueItems("no way to the last", x, 0, form, 0, NONE, 4, NONE, NONE, NONE, NONE, NONE,
                    1, 2, 3, NONE, NONE, NONE, NONE, NONE, NONE, NONE, NONE, NONE, NONE, NONE, NONE, NONE, NONE);
        }
        HandInHand square = fairOf(SQUARE);
        square.sheet(3, 0, 64);
        due("all", square.write(63, 3), 64);
        due("the first", square.get(3, 0, 0), 14);
        due("the last", square.get(3, 0, 63), 0);
    }

    @Says(promise = 36, words = "BAD; NULL.")
    static void writeIsBadAheadOfNull() {
        HandInHand x = fairOf("0#");
        for (int place : new int[] {-1, 1, 2, 8, 63, 64, LOW, HIGH}) {
            due("no place " + place, x.write(place, 0), BAD);
        }
        due("no sheet below", x.write(0, -1), BAD);
        due("no sheet beyond", x.write(0, 4), BAD);
        due("no finding yet", x.count(8), 0);
        due("lost", x.write(0, 3), NULL);
        due("the finding", x.count(8), 1);
    }

    // ---- promises 37 and 38

    @Says(promise = 37, words = {
        "0 PLACES, 1 PERSONS in ORDER, 2 steps of THE WAY, 3 those that are done, 4 to 6 bytes of texts, 7 LOOKS,",
        "BAD."})
    static void countsOfAllThatIsEmptyAndFull() {
        HandInHand x = new HandInHand();
        for (int what = 0; what <= 8; what++) {
            due("empty " + what, x.count(what), 0);
        }
        HandInHand full = with(SQUARE, "abcde", "es".repeat(20));
        for (int k = 0; k < 5; k++) {
            full.look(k, 1);
        }
        int[] counts = {64, 5, 40, 14, 71, 5, 40, 5, 0};
        for (int what = 0; what <= 8; what++) {
            due("full " + what, full.count(what), counts[what]);
        }
        due("below", full.count(-1), BAD);
        due("beyond", full.count(9), BAD);
        full.undo(0);
        int[] faulty = {0, 5, 40, 0, 70, 5, 40, 5, 0};
        for (int what = 0; what <= 8; what++) {
            due("with a fault " + what, full.count(what), faulty[what]);
        }
    }

    @Says(promise = 37, words = "8 the number of the latest FINDING (0 before any).")
    static void count8IsTheLatestFinding() {
        HandInHand x = withItems(0, 0, 1);
        x.sheet(1, 1, 1);
        due("before any", x.count(8), 0);
        x.lose(2);
        due("null", x.count(8), 1);
        x.lay(0, 0, 1, 0);
        due("index", x.count(8), 2);
        x.lay(0, 1, 0, 0);
        due("cast", x.count(8), 3);
        x.copy(0, 0, 1, 0, 1);
        due("store", x.count(8), 4);
        x.sheet(0, 0, -1);
        due("size", x.count(8), 5);
        x.lose(2);
        due("the latest, not the greatest", x.count(8), 1);
        x.undo(0);
        x.lose(4);
        x.sheet(3, 2, 64);
        due("others are no findings", x.count(8), 1);
    }

    /** All that the digest takes, in its order, by the calls that it names. */
    private static List<Long> taken(HandInHand x) {
        List<Long> all = new ArrayList<>();
        for (int what = 0; what <= 7; what++) {
            all.add((long) x.count(what));
        }
        for (int text = 0; text <= 2; text++) {
            all.add((long) x.fault(text));
        }
        all.addAll(List.of((long) x.judged(), (long) x.at(x.count(3)), (long) x.loose(), (long) x.risk(), x.alike(0),
                x.alike(1)));
        for (int p = 0; p <= 4; p++) {
            all.addAll(List.of((long) x.order(p), x.seek(p, -2), x.seek(p, NONE), x.seek(p, 0)));
        }
        all.add((long) x.near(0, 9));
        for (int i = -2; i <= 1; i++) {
            all.add((long) x.easiest(0, 9, i));
        }
        for (int i = NONE; i <= 4; i++) {
            all.add((long) x.best(31, i));
        }
        all.add(x.holds(0, 0, 2, 0));
        for (int what = 0; what <= 3; what++) {
            all.add((long) x.torn(7, what));
        }
        all.addAll(List.of((long) x.fairs(7, 9), x.is(0, 3, 1, 0), x.is(0, 3, 1, 1), (long) x.likeliest(0, 4)));
        for (int what = 0; what <= 2; what++) {
            all.add(x.parted(0, 1, what));
        }
        all.addAll(List.of((long) x.meet(7, 0), (long) x.meet(7, 1), (long) x.counts(60, 3, 2)));
        return all;
    }

    private static void dueDigest(String call, HandInHand x) {
        BigInteger h = BigInteger.valueOf(17);
        for (long v : taken(x)) {
            h = h.multiply(BigInteger.valueOf(31)).add(BigInteger.valueOf(v));
        }
        due(call, x.digest(), h.longValue());
    }

    @Says(promise = 38, words = {
        "h is 17; h becomes 31 h and each of:", "as longs that wrap."})
    static void digestOfTheEmptyAndTheFull() {
        dueDigest("a new object", new HandInHand());
        HandInHand full = with("12345678;".repeat(7) + "12345678", "edcba", "es".repeat(20));
        for (int k = 0; k < 5; k++) {
            full.look(13 * k, 9 - k);
            full.person(k, 0, 4 * k);
            full.person(k, 1, 63 - k);
            full.grip(k, (k + 1) % 5, 4 * k);
        }
        for (int rule = 0; rule < 3; rule++) {
            full.set(2, rule);
            dueDigest("all there is, by rule " + rule, full);
        }
        HandInHand apart = with(ROW, "abc", "e");
        for (int person = 0; person < 3; person++) {
            dueDigest("persons apart, " + person, apart);
            apart.person(person, 1, 7);
            dueDigest("one stands at the end, " + person, apart);
            apart.person(person, 1, 0);
        }
    }

    @Says(promise = 38, words = {
        "count() 0 to 7; of texts fault(); judged(), at(all that are done) (as it is told),",
        "loose(), risk(), alike(), above, below;",
        "of PERSONS 0 to 4 order(it), seek(it, -2), (it, NONE), (it, 0) (as they are told);",
        "near(0, 9), easiest(0, 9, -2 to 1) (as they are told), best(31, NONE to 4), holds(0, 0, 2, 0) (as it is told),",
        "torn(7, 0 to 3), fairs(7, 9), is(0, 3, 1, 0 and 1), likeliest(0, 4) (as they are told),",
        "parted(0, 1, 0 to 2) (as it is told), meet(7, 0 and 1), counts(60, 3, 2);"})
    static void digestTakesRefusalsAsTheyAreTold() {
        String[][] texts = {{"x", "aa", "z"}, {"0", "a", "e"}, {"0#;00", "ab", "se"}, {"00;0#", "ab", "es"},
            {"#0;00", "ab", "es"}, {"00;00", "ab", "e"}, {"00#;##0", "abc", "ee"}, {"91;19", "ba", "es"}};
        for (String[] t : texts) {
            HandInHand x = with(t[0], t[1], t[2]);
            dueDigest("no looks, " + t[0], x);
            x.look(0, 1);
            x.look(8, 2);
            dueDigest("two looks, " + t[0], x);
            x.person(1, 1, 9);
            dueDigest("one stands elsewhere, " + t[0], x);
            x.set(0, 9);
            x.set(2, 1);
            dueDigest("start elsewhere, " + t[0], x);
            x.lose(0);
            dueDigest("behind a finding, " + t[0], x);
        }
    }
}
