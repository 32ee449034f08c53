import java.util.ArrayList;
import java.util.List;

/**
 * The refusals of each act, in a scene where there is something of everything: what they answer, which comes first
 * where several fit, and that they change nothing. A twin of the scene that was not asked tells what should be.
 */
public final class RefusalTests extends Bounds {
    private static final String[] OUT_OF_TEXTS = {"-1", "3", "low", "high"};
    private static final String[] OUT_OF_PERSONS = {"-1", "5", "low", "high"};
    private static final String[] OUT_OF_SHEETS = {"-1", "4", "low", "high"};
    private static final String[] OUT_OF_FORMS = {"-1", "3", "low", "high"};
    private static final String[] OUT_OF_SIXTEENTHS = {"-1", "17", "low", "high"};
    private static final String[] OUT_OF_CELLS = {"-1", "64", "low", "high"};
    private static final String[] OUT_OF_PARTS = {"-1", "2", "low", "high"};
    /** A post, right of the fair, below it, and out of all rows. */
    private static final String[] NO_PLACES = {"2", "4", "24", "63", "-1", "64", "low", "high"};

    private RefusalTests() {
    }

    public static void main(String[] args) throws ReflectiveOperationException {
        Check.runAll(RefusalTests.class);
        Check.end();
    }

    // ---- the scene and what can be seen of it

    private static Caller scene(String before) {
        Caller x = new Caller();
        x.typeAll(0, "02#3;1900;0#24");
        x.typeAll(1, "cadb");
        x.typeAll(2, "eseewwnn");
        x.callAll("set 0 0, set 1 11, set 2 1, grip 0 2 3, grip 0 3 14, grip 1 3 0, grip 2 4 16");
        x.callAll("person 0 0 5, person 2 0 16, person 4 0 0, person 0 1 19, person 1 1 8, person 2 1 3");
        x.callAll("look 11 3, look 0 7, look 18 1");
        x.callAll("sheet 0 0 3, lay 0 0 0 1, lay 0 0 1 -2, lay 0 0 2 16, sheet 1 1 2, lay 1 1 1 300");
        x.callAll("sheet 3 2 3, lay 3 2 2 70000, sheet 2 0 -1");
        x.callAll(before);
        return x;
    }

    private static List<Long> seen(Caller x) {
        List<Long> all = new ArrayList<>();
        all.add(x.call("digest"));
        for (int what = 0; what < 8; what++) {
            all.add(x.call("count " + what));
        }
        for (int k = 0; k <= 8; k++) {
            all.add(x.call("at " + k));
        }
        for (int place = 0; place < 24; place++) {
            all.add(x.call("dense " + place));
            all.add(x.call("is 0 5 " + place + " 0"));
        }
        for (int what = 0; what < 4; what++) {
            all.add(x.call("torn 99 " + what));
        }
        for (int i = -2; i < 5; i++) {
            all.add(x.call("seek 1 " + i));
        }
        all.add(x.call("set 0 0"));
        all.add(x.call("set 1 0"));
        all.add(x.call("set 2 0"));
        seePersons(x, all);
        seeSheets(x, all);
        seeTexts(x, all);
        all.add(x.call("forget"));
        return all;
    }

    private static void seePersons(Caller x, List<Long> all) {
        for (int a = 0; a < 5; a++) {
            all.add(x.call("person " + a + " 0 8"));
            all.add(x.call("person " + a + " 1 0"));
            for (int b = a + 1; b < 5; b++) {
                all.add(x.call("grip " + a + " " + b + " 8"));
            }
        }
    }

    private static void seeSheets(Caller x, List<Long> all) {
        int[] forms = {0, 1, 0, 2};
        for (int s = 0; s < 4; s++) {
            for (int i = 0; i < 4; i++) {
                all.add(x.call("get " + s + " " + forms[s] + " " + i));
            }
            all.add(x.call("lose " + s));
        }
    }

    private static void seeTexts(Caller x, List<Long> all) {
        for (int text = 0; text < 3; text++) {
            all.add(x.call("fault " + text));
            for (long left = x.call("count " + (4 + text)); left > 0; left--) {
                all.add(x.call("undo " + text));
                // Bytes show by the faults they make; in the longest text only the first ones are looked at.
                if (left < 20) {
                    all.add(x.call("fault " + text));
                }
            }
        }
    }

    private static int findingOf(long answer) {
        return answer <= NULL && answer >= SIZE ? (int) (-10 - answer) : 0;
    }

    /** Behind the calls before it, a call is refused by this answer, and all but count() 8 stays as it was. */
    private static void refused(String before, String call, long answer) {
        refused(before, call, answer, findingOf(answer));
    }

    private static void refused(String before, String call, long answer, int finding) {
        Caller asked = scene(before), twin = scene(before);
        due(call, asked.call(call), answer);
        long was = twin.call("count 8");
        if (finding != 0) {
            that(call + " is asked behind another finding", was != finding);
        }
        due(call + ", then count 8", asked.call("count 8"), finding == 0 ? was : finding);
        that(call + " changes nothing", seen(asked).equals(seen(twin)));
    }

    /** The scene's latest FINDING is SIZE; where SIZE itself is asked for, another must come ahead of it. */
    private static final String OTHER_FINDING = "lose 2";

    /** The call with each of these numbers where it has a star. */
    private static void eachRefused(String before, String call, long answer, String... numbers) {
        for (String number : numbers) {
            refused(before, call.replace("*", number), answer);
        }
    }

    // ---- fair, order, way

    private static String typed(int text, String bytes) {
        StringBuilder calls = new StringBuilder();
        for (char c : bytes.toCharArray()) {
            calls.append(calls.length() == 0 ? "" : ", ").append("type ").append(text).append(' ').append((int) c);
        }
        return calls.toString();
    }

    @Says(promise = 2, words = "BAD; FULL.")
    static void typeIsRefused() {
        eachRefused("", "type * 97", BAD, OUT_OF_TEXTS);
        for (int text = 0; text < 3; text++) {
            eachRefused("", "type " + text + " *", BAD, "-1", "256", "low", "high");
        }
        String full = typed(0, "x".repeat(71 - 14));
        refused(full, "type 0 48", FULL);
        refused(full, "type 0 256", BAD);
        refused(typed(1, "e"), "type 1 97", FULL);
        refused(typed(1, "e"), "type 1 -1", BAD);
        refused(typed(2, "n".repeat(32)), "type 2 110", FULL);
        refused(typed(2, "n".repeat(32)), "type 2 256", BAD);
        refused(full, "type 3 48", BAD);
    }

    @Says(promise = 3, words = "BAD.")
    static void wipeIsRefused() {
        eachRefused("", "wipe *", BAD, OUT_OF_TEXTS);
    }

    @Says(promise = 4, words = "BAD; NOT: it is empty.")
    static void undoIsRefused() {
        eachRefused("", "undo *", BAD, OUT_OF_TEXTS);
        for (int text = 0; text < 3; text++) {
            refused("wipe " + text, "undo " + text, NOT);
        }
        eachRefused("wipe 0, wipe 1, wipe 2", "undo *", BAD, OUT_OF_TEXTS);
        Caller one = scene("wipe 1, type 1 97");
        due("the only byte is no refusal", one.call("undo 1"), 0);
        due("then it is empty", one.call("undo 1"), NOT);
    }

    @Says(promise = 5, words = "BAD.")
    static void faultIsRefused() {
        eachRefused("", "fault *", BAD, OUT_OF_TEXTS);
    }

    @Says(promise = 6, words = "BAD.")
    static void setIsRefused() {
        eachRefused("", "set * 0", BAD, "-1", "3", "low", "high");
        eachRefused("", "set 0 *", BAD, OUT_OF_CELLS);
        eachRefused("", "set 1 *", BAD, OUT_OF_CELLS);
        eachRefused("", "set 2 *", BAD, "-1", "3", "63", "low", "high");
    }

    @Says(promise = 7, words = "BAD: also of one with itself.")
    static void gripIsRefused() {
        eachRefused("", "grip * 0 1", BAD, OUT_OF_PERSONS);
        eachRefused("", "grip 4 * 1", BAD, OUT_OF_PERSONS);
        eachRefused("", "grip 0 3 *", BAD, OUT_OF_SIXTEENTHS);
        eachRefused("", "grip * * 1", BAD, "-1", "0", "1", "2", "3", "4", "5");
    }

    @Says(promise = 8, words = "BAD.")
    static void personIsRefused() {
        eachRefused("", "person * 0 1", BAD, OUT_OF_PERSONS);
        eachRefused("", "person * 1 1", BAD, OUT_OF_PERSONS);
        eachRefused("", "person 0 * 1", BAD, OUT_OF_PARTS);
        eachRefused("", "person 0 0 *", BAD, OUT_OF_SIXTEENTHS);
        eachRefused("", "person 0 1 *", BAD, OUT_OF_CELLS);
    }

    @Says(promise = 9, words = "BAD; NULL.")
    static void readIsRefused() {
        eachRefused("", "read *", BAD, OUT_OF_SHEETS);
        refused("", "read 2", NULL);
        refused("lose 0, sheet 2 0 -1", "read 0", NULL);
    }

    // ---- ways, orders

    @Says(promise = 10, words = "BAD: no PLACE.")
    static void denseIsRefused() {
        eachRefused("", "dense *", BAD, NO_PLACES);
        refused("type 0 59", "dense 0", BAD);
    }

    @Says(promise = 12, words = "BAD; NOT: START is no PLACE.")
    static void atIsRefused() {
        eachRefused("", "at *", BAD, "-1", "8", "9", "low", "high");
        eachRefused("set 0 2", "at *", BAD, "-1", "1", "low", "high");
        refused("set 0 2", "at 0", NOT);
        refused("set 0 63", "at 0", NOT);
        refused("wipe 0", "at 0", NOT);
    }

    @Says(promise = 13, words = "BAD.")
    static void nearIsRefused() {
        eachRefused("", "near * 0", BAD, NO_PLACES);
        eachRefused("", "near 0 *", BAD, NO_PLACES);
    }

    @Says(promise = 14, words = "BAD.")
    static void easiestIsRefused() {
        eachRefused("", "easiest * 0 -1", BAD, NO_PLACES);
        eachRefused("", "easiest 0 * -1", BAD, NO_PLACES);
        eachRefused("", "easiest 0 3 *", BAD, "-3", "low");
    }

    @Says(promise = 15, words = "BAD.")
    static void orderIsRefused() {
        eachRefused("", "order *", BAD, OUT_OF_PERSONS);
    }

    @Says(promise = 18, words = "BAD.")
    static void bestIsRefused() {
        eachRefused("", "best * 0", BAD, "0", "1", "2", "4", "8", "16", "32", "33", "-1", "low", "high");
        eachRefused("", "best 31 *", BAD, "-2", "5", "low", "high");
    }

    @Says(promise = 19, words = "BAD. (As the least long.)")
    static void holdsIsRefused() {
        eachRefused("", "holds * 0 1 0", LONG_BAD, "-1", "3", "4", "low", "high");
        eachRefused("", "holds 0 * 1 0", LONG_BAD, "-1", "7", "low", "high");
        eachRefused("", "holds 0 0 * 0", LONG_BAD, "-1", "7", "low", "high");
        eachRefused("", "holds 0 2 * 0", LONG_BAD, "6", "high");
        eachRefused("", "holds 0 0 1 *", LONG_BAD, OUT_OF_PARTS);
        refused("set 0 2", "holds 0 0 1 0", LONG_BAD);
        refused("wipe 1", "holds 0 0 1 0", LONG_BAD);
    }

    @Says(promise = 20, words = "BAD. (As the least long.)")
    static void alikeIsRefused() {
        eachRefused("", "alike *", LONG_BAD, OUT_OF_PARTS);
    }

    // ---- torn, lost

    @Says(promise = 21, words = "BAD.")
    static void tornIsRefused() {
        eachRefused("", "torn 7 *", BAD, "-1", "4", "low", "high");
    }

    @Says(promise = 22, words = "BAD.")
    static void fairsIsRefused() {
        eachRefused("", "fairs 7 *", BAD, "0", "-1", "61", "low", "high");
    }

    @Says(promise = 23, words = "BAD. (As the least long.)")
    static void isIsRefused() {
        eachRefused("", "is * 0 0 0", LONG_BAD, NO_PLACES);
        eachRefused("", "is 0 * 0 0", LONG_BAD, "-1", "6", "low", "high");
        eachRefused("", "is 0 0 * 0", LONG_BAD, NO_PLACES);
        eachRefused("", "is 0 0 0 *", LONG_BAD, OUT_OF_PARTS);
    }

    @Says(promise = 24, words = "BAD.")
    static void likeliestIsRefused() {
        eachRefused("", "likeliest * 0", BAD, NO_PLACES);
        eachRefused("", "likeliest 0 *", BAD, "-1", "6", "low", "high");
    }

    // ---- seeking, meeting

    @Says(promise = 25, words = "BAD; FULL.")
    static void lookIsRefused() {
        String full = "look 1 1, look 2 2";
        for (String before : new String[] {"", full}) {
            eachRefused(before, "look * 1", BAD, OUT_OF_CELLS);
            eachRefused(before, "look 1 *", BAD, "0", "10", "-1", "low", "high");
        }
        refused(full, "look 1 1", FULL);
        refused(full, "look 63 9", FULL);
    }

    /** No LOOKS; a LOOK at a post, or below the fair; one stands at a post, or nowhere; no fair; a fair in parts. */
    private static final String[] NO_WAYS = {"forget", "look 2 1", "look 24 1", "person 1 1 2", "person 1 1 63",
        "wipe 0", "wipe 0, " + typed(0, "02#3;19#0;0#24")};

    @Says(promise = 27, words = "BAD; NOT. (As the least long.)")
    static void seekIsRefused() {
        eachRefused("", "seek * 0", LONG_BAD, OUT_OF_PERSONS);
        eachRefused("", "seek 1 *", LONG_BAD, "-3", "5", "low", "high");
        for (String before : NO_WAYS) {
            eachRefused(before, "seek 1 *", LONG_NOT, "-2", "-1", "0", "4");
            eachRefused(before, "seek 1 *", LONG_BAD, "-3", "5");
            eachRefused(before, "seek * 0", LONG_BAD, "-1", "5");
        }
    }

    @Says(promise = 28, words = "BAD: also one with itself; NOT. (As the least long.)")
    static void partedIsRefused() {
        eachRefused("", "parted * 1 0", LONG_BAD, OUT_OF_PERSONS);
        eachRefused("", "parted 1 * 0", LONG_BAD, OUT_OF_PERSONS);
        eachRefused("", "parted 1 2 *", LONG_BAD, "-1", "3", "low", "high");
        eachRefused("", "parted * * 0", LONG_BAD, "-1", "0", "1", "2", "3", "4", "5");
        for (String before : NO_WAYS) {
            eachRefused(before, "parted 1 2 *", LONG_NOT, "0", "1", "2");
            eachRefused(before, "parted 2 1 *", LONG_NOT, "0", "1", "2");
            refused(before, "parted 1 1 0", LONG_BAD);
            refused(before, "parted 1 2 3", LONG_BAD);
        }
    }

    @Says(promise = 29, words = "BAD.")
    static void meetIsRefused() {
        eachRefused("", "meet * 0", BAD, "0", "32", "33", "-1", "low", "high");
        eachRefused("", "meet 31 *", BAD, OUT_OF_PARTS);
        eachRefused("wipe 0", "meet 31 *", BAD, OUT_OF_PARTS);
    }

    @Says(promise = 30, words = "BAD.")
    static void countsIsRefused() {
        eachRefused("", "counts * 1 1", BAD, "0", "100", "-1", "low", "high");
        eachRefused("", "counts 1 * 1", BAD, "-1", "100", "low", "high");
        eachRefused("", "counts 1 1 *", BAD, "-1", "100", "low", "high");
    }

    // ---- sheets

    @Says(promise = 31, words = "BAD: SHEET, FORM, above 64; SIZE.")
    static void sheetIsRefused() {
        for (String n : new String[] {"0", "64", "-1", "65"}) {
            eachRefused(OTHER_FINDING, "sheet * 0 " + n, BAD, OUT_OF_SHEETS);
            eachRefused(OTHER_FINDING, "sheet 0 * " + n, BAD, OUT_OF_FORMS);
        }
        for (int s = 0; s < 4; s++) {
            eachRefused(OTHER_FINDING, "sheet " + s + " 1 *", BAD, "65", "high");
            eachRefused(OTHER_FINDING, "sheet " + s + " 1 *", SIZE, "-1", "low");
        }
    }

    @Says(promise = 32, words = "BAD; NULL.")
    static void loseIsRefused() {
        eachRefused("", "lose *", BAD, OUT_OF_SHEETS);
        refused("", "lose 2", NULL);
        refused("lose 3", "lose 3", NULL);
    }

    @Says(promise = 33, words = "BAD; NULL; CAST; INDEX.")
    static void layIsRefused() {
        eachRefused("", "lay * 0 0 1", BAD, OUT_OF_SHEETS);
        eachRefused("", "lay 0 * 0 1", BAD, OUT_OF_FORMS);
        eachRefused("", "lay 2 * 0 1", BAD, OUT_OF_FORMS);
        eachRefused("", "lay 2 0 * 1", NULL, "-1", "0", "64");
        eachRefused("", "lay 0 1 * 1", CAST, "-1", "0", "3");
        eachRefused("", "lay 1 2 * 1", CAST, "-1", "0", "2");
        eachRefused("", "lay 3 0 * 1", CAST, "-1", "0", "3");
        eachRefused("", "lay 0 0 * 1", INDEX, "-1", "3", "64", "low", "high");
        eachRefused("", "lay 1 1 * 1", INDEX, "-1", "2", "64", "low", "high");
        eachRefused("", "lay 3 2 * 1", INDEX, "-1", "3", "64", "low", "high");
        refused("sheet 3 2 0", "lay 3 2 0 1", INDEX);
        refused("sheet 3 2 64", "lay 3 2 64 1", INDEX);
    }

    @Says(promise = 34, words = "BAD: the least int; so are NULL, CAST, INDEX (count() 8 tells).")
    static void getIsRefused() {
        eachRefused("", "get * 0 0", LOW, OUT_OF_SHEETS);
        eachRefused("", "get 0 * 0", LOW, OUT_OF_FORMS);
        eachRefused("", "get 2 * 0", LOW, OUT_OF_FORMS);
        for (String i : new String[] {"-1", "0", "3", "64", "low", "high"}) {
            refused("", "get 2 0 " + i, LOW, 1);
            refused("", "get 0 1 " + i, LOW, 3);
            refused("", "get 1 2 " + i, LOW, 3);
            refused("", "get 3 0 " + i, LOW, 3);
        }
        for (String i : new String[] {"-1", "3", "64", "low", "high"}) {
            refused("", "get 0 0 " + i, LOW, 2);
            refused("", "get 1 1 " + i, LOW, 2);
            refused("", "get 3 2 " + i, LOW, 2);
        }
    }

    @Says(promise = 35, words = {"BAD: the SHEETS; NULL: s, t; STORE;", "INDEX: below 0, not so many."})
    static void copyIsRefused() {
        eachRefused("", "copy * 0 0 0 1", BAD, OUT_OF_SHEETS);
        eachRefused("", "copy 0 0 * 0 1", BAD, OUT_OF_SHEETS);
        eachRefused("", "copy 2 0 * 0 1", BAD, OUT_OF_SHEETS);
        eachRefused("", "copy 0 0 2 0 *", NULL, "0", "1", "9", "-1");
        eachRefused("", "copy 2 0 0 0 *", NULL, "0", "1", "9", "-1");
        eachRefused("", "copy 2 0 2 0 *", NULL, "0", "1", "-1");
        eachRefused("", "copy 0 0 1 0 *", STORE, "0", "1", "9", "-1");
        eachRefused("", "copy 3 * 0 0 1", STORE, "0", "3", "-1");
        eachRefused("", "copy 0 * 0 0 1", INDEX, "-1", "3", "low", "high");
        eachRefused("", "copy 0 0 0 * 1", INDEX, "-1", "3", "low", "high");
        eachRefused("", "copy 0 0 0 0 *", INDEX, "-1", "4", "low", "high");
        eachRefused("", "copy 0 1 0 0 *", INDEX, "3", "high");
        eachRefused("", "copy 0 0 0 1 *", INDEX, "3", "high");
    }

    @Says(promise = 36, words = "BAD; NULL.")
    static void writeIsRefused() {
        eachRefused("", "write * 0", BAD, NO_PLACES);
        eachRefused("", "write * 2", BAD, NO_PLACES);
        eachRefused("", "write 0 *", BAD, OUT_OF_SHEETS);
        refused("", "write 0 2", NULL);
        refused("lose 1, sheet 2 0 -1", "write 19 1", NULL);
    }

    @Says(promise = 37, words = "BAD.")
    static void countIsRefused() {
        eachRefused("", "count *", BAD, "-1", "9", "low", "high");
    }

    // ---- what is said of all of them

    @Says(promise = 0, words = {
        "Refusals, the first that fits, in the order told at each act:",
        "BAD -2 (a number not as told, no such thing), NULL, NOT -3 (as told), FULL -4, other FINDINGS."})
    static void theFirstRefusalThatFits() {
        due("bad", BAD, -2);
        due("not", NOT, -3);
        due("full", FULL, -4);
        refused(typed(1, "e"), "type 1 256", -2);
        refused(typed(1, "e"), "type 1 97", -4);
        refused("look 1 1, look 1 1", "look 64 1", -2);
        refused("look 1 1, look 1 1", "look 0 1", -4);
        refused("wipe 0", "at 1", -2);
        refused("wipe 0", "at 0", -3);
        refused(OTHER_FINDING, "sheet 4 0 -1", -2);
        refused(OTHER_FINDING, "sheet 3 0 -1", -15);
        refused("", "lay 2 3 -1 0", -2);
        refused("", "lay 2 2 -1 0", -11);
        refused("", "lay 1 2 -1 0", -13);
        refused("", "lay 1 1 -1 0", -12);
        refused("", "copy 2 -1 4 0 0", -2);
        refused("", "copy 2 -1 1 0 0", -11);
        refused("", "copy 0 -1 1 0 0", -14);
        refused("", "copy 0 -1 0 0 0", -12);
        refused("", "write 63 2", -2);
        refused("", "write 0 2", -11);
    }

    @Says(promise = 0, words = "They change nothing (FINDINGS but count() 8).")
    static void manyRefusalsTogetherChangeNothing() {
        String[] calls = {"type 3 0", "type 0 -1", "wipe 3", "undo -1", "set 0 64", "set 2 3", "grip 1 1 0",
            "grip 0 1 17", "person 0 0 17", "person 0 1 64", "person 5 0 0", "read 4", "read 2", "at 99", "best 1 0",
            "fairs 1 0", "look 64 1", "look 0 0", "seek 0 5", "sheet 0 0 65", "sheet 0 0 -1", "sheet 0 3 1", "lose 2",
            "lose 4", "lay 0 1 0 9", "lay 0 0 3 9", "get 0 0 3", "copy 0 0 1 0 1", "copy 0 0 0 2 2", "write 2 0",
            "write 0 2"};
        Caller asked = scene(""), twin = scene("");
        for (String call : calls) {
            asked.call(call);
        }
        due("the latest finding", asked.call("count 8"), 1);
        due("of the twin", twin.call("count 8"), 5);
        that("nothing else is changed", seen(asked).equals(seen(twin)));
    }

    @Says(promise = 0, words = "Where the answer is a long, a refusal -x is the least long and x more.")
    static void refusalsOfLongs() {
        long least = Long.MIN_VALUE;
        refused("", "holds 0 0 1 2", least + 2);
        refused("", "alike 2", least + 2);
        refused("", "is 0 0 0 2", least + 2);
        refused("", "seek 0 5", least + 2);
        refused("forget", "seek 0 0", least + 3);
        refused("", "parted 0 0 0", least + 2);
        refused("forget", "parted 0 1 0", least + 3);
    }
}
