/** One method for each promise of the document: ordinary inputs, the edges it names, wrong inputs. */
public final class PromiseTests {
    private static final int NONE = HandInHand.NONE, BAD = HandInHand.BAD, NOT = HandInHand.NOT;
    private static final int FULL = HandInHand.FULL, LEAST = Integer.MIN_VALUE;
    private static final int NULL = -11, INDEX = -12, CAST = -13, STORE = -14, SIZE = -15;
    private static final int LOW = Integer.MIN_VALUE, HIGH = Integer.MAX_VALUE;
    private static final String LINE = "00000000";

    private PromiseTests() {
    }

    private static void due(String call, long got, long want) {
        Check.due(call, got, want);
    }

    public static void main(String[] args) {
        newObject();
        type();
        wipe();
        undo();
        fault();
        set();
        grip();
        person();
        read();
        dense();
        judged();
        at();
        near();
        easiest();
        easiestOfLikeOnes();
        order();
        loose();
        risk();
        best();
        holds();
        alike();
        torn();
        fairs();
        isByRules();
        isWrong();
        likeliest();
        look();
        forget();
        seek();
        seekNot();
        parted();
        partedNot();
        meet();
        counts();
        sheet();
        lose();
        lay();
        get();
        copy();
        write();
        count();
        digest();
        questionsInAnyOrder();
        Check.end();
    }

    private static void newObject() {
        HandInHand x = new HandInHand();
        for (int what = 0; what <= 8; what++) {
            due("1 count " + what, x.count(what), 0);
        }
        for (int k = 0; k < 3; k++) {
            due("1 fault " + k, x.fault(k), NONE);
            due("1 set " + k, x.set(k, 0), 0);
        }
        for (int a = 0; a < 5; a++) {
            due("1 habit " + a, x.person(a, 0, 8), 8);
            due("1 stand " + a, x.person(a, 1, 0), 0);
            for (int b = 0; b < 5; b++) {
                due("1 grip " + a + " " + b, x.grip(a, b, 8), a == b ? BAD : 8);
            }
        }
        for (int s = 0; s < 4; s++) {
            due("1 lose " + s, x.lose(s), NULL);
        }
        due("1 forget", x.forget(), 0);
    }

    private static void type() {
        HandInHand x = new HandInHand();
        int[] limits = {71, 5, 40};
        for (int text = 0; text < 3; text++) {
            for (int k = 1; k <= limits[text]; k++) {
                due("2 type", x.type(text, k % 256), k);
            }
            due("2 full " + text, x.type(text, 48), FULL);
            due("2 bad ahead of full", x.type(text, 256), BAD);
            due("2 bytes", x.count(4 + text), limits[text]);
        }
        HandInHand y = new HandInHand();
        due("2 least byte", y.type(0, 0), 1);
        due("2 most byte", y.type(0, 255), 2);
        int[] wrongTexts = {-1, 3, LOW, HIGH}, wrongBytes = {-1, 256, LOW, HIGH};
        for (int k = 0; k < 4; k++) {
            due("2 no such text", y.type(wrongTexts[k], 48), BAD);
            due("2 no such byte", y.type(0, wrongBytes[k]), BAD);
        }
        due("2 nothing changed", y.count(4), 2);
    }

    private static void wipe() {
        HandInHand x = Check.with("12;34", "ab", "nes");
        due("3 wipe way", x.wipe(2), 3);
        due("3 no steps", x.count(2), 0);
        due("3 wipe order", x.wipe(1), 2);
        due("3 nobody", x.count(1), 0);
        due("3 wipe fair", x.wipe(0), 5);
        due("3 no places", x.count(0), 0);
        due("3 wipe again", x.wipe(0), 0);
        due("3 fault of wiped", x.fault(0), NONE);
        for (int text : new int[] {-1, 3, LOW, HIGH}) {
            due("3 no such text", x.wipe(text), BAD);
        }
    }

    private static void undo() {
        HandInHand x = Check.with("12;345", "ab", "e");
        due("4 places with a fault", x.count(0), 0);
        due("4 undo", x.undo(0), 5);
        due("4 places", x.count(0), 4);
        due("4 done", x.count(3), 1);
        due("4 undo way", x.undo(2), 0);
        due("4 done after undo", x.count(3), 0);
        due("4 empty", x.undo(2), NOT);
        due("4 undo order", x.undo(1), 1);
        due("4 typed again", x.type(1, 'c'), 2);
        due("4 who goes", x.order(1), 2);
        for (int text : new int[] {-1, 3, LOW, HIGH}) {
            due("4 no such text", x.undo(text), BAD);
        }
    }

    private static void fault() {
        Object[][] cases = {
            {0, "1", NONE}, {0, "#", NONE}, {0, "0#9", NONE}, {0, ";", 0}, {0, "1;", 2}, {0, "12;3", 4},
            {0, "12;34", NONE}, {0, "12;345", 5}, {0, "12;3;", 4}, {0, "1;;", 2}, {0, "12345678", NONE},
            {0, "123456789", 8}, {0, "12345678;", 9}, {0, "12345678x", 8}, {0, "x", 0}, {0, "1a", 1},
            {0, "1:", 1}, {0, "1/", 1}, {0, "1\"", 1}, {0, "1$", 1}, {0, "12;x", 3}, {0, "12;3x4", 4},
            {0, "12;34x", 5}, {0, "12;34;5", 7}, {0, "12;34;56", NONE}, {0, "1;2;3;4;5;6;7;8", NONE},
            {0, "1;2;3;4;5;6;7;8;", 16}, {0, "1;2;3;4;5;6;7;8;9", 16}, {0, "1;2;3;4;5;6;7;8;;", 16},
            {0, "1;2;3;4;5;6;7;8;x", 16}, {0, "1;2;3;4;5;6;7;88", 15}, {0, "x1;", 0},
            {1, "abcde", NONE}, {1, "edcba", NONE}, {1, "a", NONE}, {1, "aa", 1}, {1, "aba", 2}, {1, "f", 0},
            {1, "ab`", 2}, {1, "A", 0}, {1, "abfa", 2},
            {2, "nesw", NONE}, {2, "nnnn", NONE}, {2, "nex", 2}, {2, "N", 0}, {2, "e;", 1},
        };
        for (Object[] c : cases) {
            HandInHand x = new HandInHand();
            Check.typeAll(x, (Integer) c[0], (String) c[1]);
            due("5 fault of " + c[1], x.fault((Integer) c[0]), (Integer) c[2]);
            boolean well = (Integer) c[2] == NONE;
            Check.that("5 as if empty: " + c[1], well || x.count((Integer) c[0]) == 0);
        }
        HandInHand x = new HandInHand();
        for (int text : new int[] {-1, 3, LOW, HIGH}) {
            due("5 no such text", x.fault(text), BAD);
        }
    }

    private static void set() {
        HandInHand x = Check.with(LINE, "", "e");
        due("6 start", x.set(0, 3), 0);
        due("6 start was", x.set(0, 7), 3);
        due("6 steps from the start", x.count(3), 0);
        due("6 start again", x.set(0, 63), 7);
        due("6 clock", x.set(1, 63), 0);
        due("6 clock was", x.set(1, 0), 63);
        due("6 rule", x.set(2, 2), 0);
        due("6 rule was", x.set(2, 0), 2);
        int[][] wrong = {{-1, 0}, {3, 0}, {LOW, 0}, {HIGH, 0}, {0, -1}, {0, 64}, {1, -1}, {1, 64}, {2, -1}, {2, 3}};
        for (int[] w : wrong) {
            due("6 wrong " + w[0] + " " + w[1], x.set(w[0], w[1]), BAD);
        }
        due("6 start kept", x.set(0, 0), 63);
        due("6 clock kept", x.set(1, 0), 0);
        due("6 rule kept", x.set(2, 0), 0);
    }

    private static void grip() {
        HandInHand x = new HandInHand();
        due("7 grip", x.grip(0, 4, 16), 8);
        due("7 the same both ways", x.grip(4, 0, 0), 16);
        due("7 once more", x.grip(0, 4, 1), 0);
        due("7 another pair", x.grip(1, 4, 2), 8);
        int[][] wrong = {{1, 1, 3}, {-1, 0, 3}, {0, -1, 3}, {5, 0, 3}, {0, 5, 3}, {0, 4, -1}, {0, 4, 17},
            {LOW, 0, 3}, {0, HIGH, 3}, {5, 5, 3}};
        for (int[] w : wrong) {
            due("7 wrong " + w[0] + " " + w[1] + " " + w[2], x.grip(w[0], w[1], w[2]), BAD);
        }
        due("7 kept", x.grip(0, 4, 1), 1);
    }

    private static void person() {
        HandInHand x = new HandInHand();
        due("8 habit", x.person(4, 0, 16), 8);
        due("8 habit was", x.person(4, 0, 0), 16);
        due("8 stands", x.person(4, 1, 63), 0);
        due("8 stood", x.person(4, 1, 5), 63);
        due("8 habit apart", x.person(4, 0, 3), 0);
        int[][] wrong = {{-1, 0, 0}, {5, 0, 0}, {0, -1, 0}, {0, 2, 0}, {0, 0, -1}, {0, 0, 17}, {0, 1, -1},
            {0, 1, 64}, {LOW, 1, 0}, {0, HIGH, 0}};
        for (int[] w : wrong) {
            due("8 wrong " + w[0] + " " + w[1] + " " + w[2], x.person(w[0], w[1], w[2]), BAD);
        }
        due("8 kept", x.person(0, 0, 8), 8);
    }

    private static void read() {
        HandInHand x = new HandInHand();
        due("9 lost", x.read(0), NULL);
        due("9 finding", x.count(8), 1);
        due("9 no sheet", x.read(4), BAD);
        due("9 no sheet", x.read(-1), BAD);
        x.sheet(0, 0, 7);
        for (int k = 0; k < 7; k++) {
            x.lay(0, 0, k, k + 1);
        }
        due("9 five at most", x.read(0), 5);
        for (int k = 0; k < 5; k++) {
            due("9 habit " + k, x.person(k, 0, 16), k + 1);
        }
        x.lay(0, 0, 2, 255);
        due("9 a byte below 0", x.read(0), 2);
        due("9 read", x.person(1, 0, 16), 2);
        due("9 not read", x.person(2, 0, 16), 16);
        x.lay(0, 0, 0, 17);
        due("9 none", x.read(0), 0);
        x.sheet(1, 2, 3);
        x.lay(1, 2, 1, 16);
        due("9 as many as there are", x.read(1), 3);
        due("9 an edge", x.person(1, 0, 0), 16);
        due("9 the fourth is as it was", x.person(3, 0, 0), 16);
        x.sheet(2, 1, 0);
        due("9 an empty sheet", x.read(2), 0);
    }

    private static void dense() {
        HandInHand x = Check.with("0#9;123", "", "");
        int[][] places = {{0, 0}, {1, BAD}, {2, 9}, {3, BAD}, {7, BAD}, {8, 1}, {9, 2}, {10, 3}, {11, BAD},
            {16, BAD}, {-1, BAD}, {63, BAD}, {64, BAD}, {LOW, BAD}, {HIGH, BAD}};
        for (int[] p : places) {
            due("10 dense " + p[0], x.dense(p[0]), p[1]);
        }
        x.type(0, ';');
        due("10 with a fault", x.dense(0), BAD);
    }

    private static void judged() {
        HandInHand x = Check.with("0#0;000", "", "");
        due("11 no steps", x.judged(), NONE);
        Check.typeAll(x, 2, "seenww");
        due("11 all to the post", x.judged(), 4);
        Check.typeAll(x, 2, "seen");
        due("11 all done", x.judged(), NONE);
        Check.typeAll(x, 2, "ss");
        due("11 out of the rows", x.judged(), 1);
        Check.typeAll(x, 2, "w");
        due("11 out of the columns", x.judged(), 0);
        x.set(0, 1);
        due("11 start is a post", x.judged(), 0);
        x.wipe(2);
        due("11 start is a post, no steps", x.judged(), NONE);
        HandInHand wide = Check.with("00000000;00000000", "", "e");
        wide.set(0, 7);
        due("11 no way around the east", wide.judged(), 0);
        Check.typeAll(wide, 2, "w");
        wide.set(0, 8);
        due("11 no way around the west", wide.judged(), 0);
    }

    private static void at() {
        HandInHand x = Check.with("000;000", "", "esww");
        int[] path = {0, 1, 9, 8};
        for (int k = 0; k < 4; k++) {
            due("12 at " + k, x.at(k), path[k]);
        }
        due("12 not done", x.at(4), BAD);
        due("12 below", x.at(-1), BAD);
        due("12 far", x.at(HIGH), BAD);
        due("12 far below", x.at(LOW), BAD);
        x.set(0, 63);
        due("12 start is no place", x.at(0), NOT);
        due("12 bad ahead of not", x.at(1), BAD);
        HandInHand forty = Check.with("00", "", "ew".repeat(19) + "es");
        due("12 the last but one", forty.at(39), 1);
        due("12 the last is not done", forty.at(40), BAD);
        forty.undo(2);
        forty.type(2, 'w');
        due("12 the longest way", forty.at(40), 0);
        HandInHand north = Check.with("0;0", "", "n");
        north.set(0, 8);
        due("12 north", north.at(1), 0);
    }

    private static void near() {
        HandInHand x = Check.with("00000;###0#;0000#;#####;00000", "", "");
        due("13 here", x.near(0, 0), 0);
        due("13 side by side", x.near(0, 1), 1);
        due("13 around", x.near(0, 16), 8);
        due("13 back", x.near(16, 0), 8);
        due("13 no way", x.near(0, 32), NONE);
        int[][] wrong = {{8, 0}, {0, 8}, {-1, 0}, {0, 64}, {5, 0}, {0, 40}, {LOW, 0}, {0, HIGH}};
        for (int[] w : wrong) {
            due("13 wrong " + w[0] + " " + w[1], x.near(w[0], w[1]), BAD);
        }
    }

    private static void easiest() {
        HandInHand x = Check.with("991;000", "", "");
        due("14 dense", x.easiest(0, 2, -2), 1);
        due("14 steps", x.easiest(0, 2, NONE), 4);
        int[] letters = {2, 1, 1, 0, NONE, NONE};
        for (int i = 0; i < letters.length; i++) {
            due("14 letter " + i, x.easiest(0, 2, i), letters[i]);
        }
        due("14 back", x.easiest(2, 0, -2), 9);
        due("14 here", x.easiest(0, 0, -2), 0);
        due("14 here", x.easiest(0, 0, NONE), 0);
        due("14 here", x.easiest(0, 0, 0), NONE);
        due("14 far on", x.easiest(0, 2, HIGH), NONE);
        int[][] wrong = {{0, 2, -3}, {0, 2, LOW}, {3, 0, 0}, {0, 3, 0}, {-1, 0, 0}, {0, 64, 0}, {HIGH, LOW, 0}};
        for (int[] w : wrong) {
            due("14 wrong " + w[0] + " " + w[1] + " " + w[2], x.easiest(w[0], w[1], w[2]), BAD);
        }
        HandInHand parts = Check.with("0#0", "", "");
        for (int i = -2; i <= 1; i++) {
            due("14 no way " + i, parts.easiest(0, 2, i), NONE);
        }
        HandInHand winding = Check.with("00000000;#######0;00000000;0#######;00000000;#######0;00000000;0#######",
                "", "");
        due("14 a long way", winding.easiest(0, 56, NONE), 35);
    }

    private static void easiestOfLikeOnes() {
        HandInHand x = Check.with("00;00", "", "");
        int[][] ways = {{0, 9, 1, 2}, {8, 1, 0, 1}, {9, 0, 0, 3}, {1, 8, 2, 3}};
        for (int[] w : ways) {
            due("14 the least letter first", x.easiest(w[0], w[1], 0), w[2]);
            due("14 the other then", x.easiest(w[0], w[1], 1), w[3]);
        }
        HandInHand y = Check.with("000;000", "", "");
        due("14 the fewest steps", y.easiest(0, 2, NONE), 2);
        HandInHand z = Check.with("1110;1#11;1111", "", "");
        due("14 dense of like ones", z.easiest(16, 3, -2), 4);
        due("14 north ahead of east", z.easiest(16, 3, 0), 0);
        due("14 then north", z.easiest(16, 3, 1), 0);
        due("14 then east", z.easiest(16, 3, 2), 1);
    }

    private static void order() {
        HandInHand x = Check.with("", "dab", "");
        int[] row = {3, 0, 1, NONE, NONE};
        for (int i = 0; i < 5; i++) {
            due("15 order " + i, x.order(i), row[i]);
        }
        for (int i : new int[] {-1, 5, LOW, HIGH}) {
            due("15 wrong " + i, x.order(i), BAD);
        }
        x.type(1, 'd');
        due("15 with a fault", x.order(0), NONE);
    }

    private static void loose() {
        HandInHand x = Check.with("", "", "");
        due("16 nobody", x.loose(), 0);
        x.type(1, 'd');
        due("16 one", x.loose(), 0);
        x.type(1, 'a');
        x.type(1, 'b');
        due("16 three", x.loose(), 16);
        x.grip(0, 3, 0);
        due("16 no grip", x.loose(), 24);
        x.grip(1, 0, 16);
        due("16 a full grip", x.loose(), 16);
        x.grip(3, 1, 0);
        due("16 not side by side", x.loose(), 16);
        x.type(1, 'd');
        due("16 with a fault", x.loose(), 0);
    }

    private static void risk() {
        HandInHand x = Check.with("1234", "ab", "eee");
        due("17 risk", x.risk(), 9 * 8);
        x.set(0, 1);
        due("17 only done", x.risk(), 7 * 8);
        x.grip(0, 1, 0);
        due("17 by looseness", x.risk(), 7 * 16);
        x.set(0, 8);
        due("17 start is no place", x.risk(), 0);
        x.set(0, 0);
        x.wipe(1);
        due("17 nobody", x.risk(), 0);
        HandInHand there = Check.with("19", "ab", "ewew");
        due("17 stepped to again", there.risk(), (9 + 1 + 9 + 1) * 8);
    }

    private static void best() {
        HandInHand x = new HandInHand();
        due("18 all alike", x.best(31, NONE), 32);
        for (int i = 0; i < 5; i++) {
            due("18 the least row " + i, x.best(31, i), i);
        }
        x.grip(0, 2, 16);
        x.grip(1, 2, 15);
        x.grip(0, 1, 0);
        due("18 how loose", x.best(7, NONE), 1);
        int[] row = {0, 2, 1, NONE, NONE};
        for (int i = 0; i < 5; i++) {
            due("18 row " + i, x.best(7, i), row[i]);
        }
        due("18 two", x.best(24, 0), 3);
        due("18 two", x.best(24, 1), 4);
        due("18 two", x.best(24, 2), NONE);
        int[][] wrong = {{0, 0}, {1, 0}, {16, 0}, {32, 0}, {35, 0}, {-1, 0}, {LOW, 0}, {HIGH, 0}, {3, -2}, {3, 5},
            {3, LOW}, {3, HIGH}};
        for (int[] w : wrong) {
            due("18 wrong " + w[0] + " " + w[1], x.best(w[0], w[1]), BAD);
        }
    }

    private static void dueFraction(String call, long[] got, long above, long below) {
        due(call + " above", got[0], above);
        due(call + " below", got[1], below);
    }

    private static long[] holds(HandInHand x, int joint, int from, int n) {
        return new long[] {x.holds(joint, from, n, 0), x.holds(joint, from, n, 1)};
    }

    private static void holds() {
        HandInHand x = Check.with("9499999", "abc", "eeeeee");
        dueFraction("19 one step", holds(x, 0, 0, 1), 7, 8);
        dueFraction("19 no step", holds(x, 0, 0, 0), 1, 1);
        dueFraction("19 no step at the end", holds(x, 0, 6, 0), 1, 1);
        x.grip(1, 2, 0);
        dueFraction("19 no grip", holds(x, 1, 0, 1), 3, 4);
        dueFraction("19 five steps", holds(x, 1, 1, 5), 16807, 1048576);
        dueFraction("19 six steps", holds(x, 1, 0, 6), 50421, 4194304);
        x.grip(1, 2, 16);
        dueFraction("19 a full grip", holds(x, 1, 0, 6), 1, 1);
        int[][] wrong = {{-1, 0, 1, 0}, {2, 0, 1, 0}, {0, -1, 1, 0}, {0, 0, -1, 0}, {0, 0, 7, 0}, {0, 1, 6, 0},
            {0, 7, 0, 0}, {0, 0, 1, -1}, {0, 0, 1, 2}, {0, HIGH, 6, 0}, {HIGH, 0, 0, 0}, {0, 0, HIGH, 0},
            {0, LOW, LOW, 0}, {LOW, 0, 0, 0}};
        for (int[] w : wrong) {
            due("19 wrong", x.holds(w[0], w[1], w[2], w[3]), Check.LONG_BAD);
        }
        HandInHand longer = Check.with("19", "ab", "ewewewew");
        due("19 six of eight steps", longer.holds(0, 1, 6, 1), 1073741824L);
        due("19 seven of eight steps", longer.holds(0, 0, 7, 0), Check.LONG_BAD);
        HandInHand alone = Check.with("00", "a", "e");
        due("19 no joint", alone.holds(0, 0, 1, 0), Check.LONG_BAD);
    }

    private static long[] alike(HandInHand x) {
        return new long[] {x.alike(0), x.alike(1)};
    }

    private static void alike() {
        HandInHand x = new HandInHand();
        dueFraction("20 of none", alike(x), 1, 1);
        x.type(1, 'a');
        dueFraction("20 of one", alike(x), 1, 1);
        x.type(1, 'b');
        dueFraction("20 of two", alike(x), 1, 2);
        x.person(0, 0, 4);
        x.person(1, 0, 4);
        dueFraction("20 of two by 4", alike(x), 5, 8);
        x.person(0, 0, 0);
        x.person(1, 0, 16);
        dueFraction("20 never", alike(x), 0, 1);
        x.person(0, 0, 16);
        dueFraction("20 always", alike(x), 1, 1);
        dueFraction("20 of five", alike(Check.with("", "abcde", "")), 1, 16);
        for (int what : new int[] {-1, 2, LOW, HIGH}) {
            due("20 wrong " + what, x.alike(what), Check.LONG_BAD);
        }
    }

    private static void dueTorn(HandInHand x, int seed, int... answers) {
        for (int what = 0; what < 4; what++) {
            due("21 torn " + seed + " " + what, x.torn(seed, what), answers[what]);
        }
    }

    private static void torn() {
        HandInHand x = Check.with("01230959", "dbe", "eeeeeee");
        x.grip(1, 4, 3);
        dueTorn(x, 0, 0, 0, 1, 2 + 16);
        dueTorn(x, 1, 0, 1, 2, 2 + 16);
        dueTorn(x, -1, 1, 2, 2, 16);
        dueTorn(x, HIGH, 1, 2, 2, 16);
        dueTorn(x, LOW, 0, 0, 1, 2 + 16);
        dueTorn(x, 12345, 1, 4, 1, 16);
        dueTorn(x, 3, 0, 4, 1, 2 + 16);
        HandInHand five = Check.with("333", "abcde", "ee");
        dueTorn(five, 1, 2, 0, 2, 8 + 16);
        dueTorn(five, 4, 3, 1, 1, 16);
        dueTorn(five, 3, NONE, NONE, 0, 0);
        for (int what : new int[] {-1, 4, LOW, HIGH}) {
            due("21 wrong " + what, x.torn(0, what), BAD);
        }
        x.grip(3, 1, 16);
        x.grip(1, 4, 16);
        dueTorn(x, 0, NONE, NONE, 0, 0);
        dueTorn(Check.with("9000", "abc", "eee"), 5, NONE, NONE, 0, 0);
        dueTorn(Check.with("9999", "a", "eee"), 5, NONE, NONE, 0, 0);
    }

    private static void fairs() {
        HandInHand x = Check.with("01230959", "dbe", "eeeeeee");
        x.grip(1, 4, 3);
        due("22 one", x.fairs(12345, 1), 1);
        due("22 two", x.fairs(12345, 2), 2);
        due("22 three", x.fairs(12345, 3), 4);
        due("22 sixty", x.fairs(12345, 60), 95);
        due("22 another seed", x.fairs(-5, 3), 5);
        for (int n : new int[] {0, -1, 61, LOW, HIGH}) {
            due("22 wrong " + n, x.fairs(1, n), BAD);
        }
    }

    private static long[] is(HandInHand x, int from, int minutes, int place) {
        return new long[] {x.is(from, minutes, place, 0), x.is(from, minutes, place, 1)};
    }

    private static void isByRules() {
        HandInHand x = Check.with("000", "", "");
        dueFraction("23 stays", is(x, 1, 5, 1), 1, 1);
        dueFraction("23 is not there", is(x, 1, 5, 0), 0, 1);
        x.set(2, 1);
        dueFraction("23 wanders not yet", is(x, 1, 0, 1), 1, 1);
        dueFraction("23 wanders a minute", is(x, 1, 1, 2), 1, 3);
        dueFraction("23 wanders two", is(x, 1, 2, 1), 4, 9);
        dueFraction("23 wanders two aside", is(x, 1, 2, 0), 5, 18);
        dueFraction("23 wanders alone", is(Check.with("#0#", "", ""), 1, 5, 1), 1, 1);
        HandInHand y = Check.with("000;000;##0;0##", "", "");
        y.set(2, 2);
        y.set(1, 10);
        dueFraction("23 east first", is(y, 0, 1, 1), 1, 1);
        dueFraction("23 east again", is(y, 0, 2, 2), 1, 1);
        dueFraction("23 at the clock", is(y, 0, 3, 10), 1, 1);
        dueFraction("23 stays at the clock", is(y, 0, 5, 10), 1, 1);
        dueFraction("23 no way goes", is(y, 24, 5, 24), 1, 1);
        y.set(1, 2);
        dueFraction("23 north first", is(y, 8, 1, 0), 1, 1);
        y.set(1, 8);
        dueFraction("23 south ahead of west", is(y, 2, 1, 10), 1, 1);
        y.set(1, 16);
        dueFraction("23 the clock is a post", is(y, 0, 5, 0), 1, 1);
        y.set(1, 63);
        dueFraction("23 the clock is nowhere", is(y, 9, 5, 9), 1, 1);
    }

    private static void isWrong() {
        HandInHand x = Check.with("0#0", "", "");
        int[][] wrong = {{1, 0, 0, 0}, {0, 0, 1, 0}, {3, 0, 0, 0}, {0, 0, 8, 0}, {-1, 0, 0, 0}, {0, 0, 64, 0},
            {0, -1, 0, 0}, {0, 6, 0, 0}, {0, 0, 0, -1}, {0, 0, 0, 2}, {LOW, 0, 0, 0}, {0, HIGH, 0, 0},
            {0, 0, HIGH, 0}, {0, 0, 0, LOW}};
        for (int rule = 0; rule < 3; rule++) {
            x.set(2, rule);
            for (int[] w : wrong) {
                due("23 wrong", x.is(w[0], w[1], w[2], w[3]), Check.LONG_BAD);
            }
            dueFraction("23 out of reach", is(x, 0, 5, 2), 0, 1);
        }
    }

    private static void likeliest() {
        HandInHand x = Check.with("000", "", "");
        due("24 stays", x.likeliest(2, 5), 2);
        x.set(2, 1);
        due("24 the least of like ones", x.likeliest(1, 1), 0);
        due("24 in the middle", x.likeliest(1, 2), 1);
        due("24 not yet", x.likeliest(1, 0), 1);
        x.set(2, 2);
        due("24 on the way", x.likeliest(2, 1), 1);
        due("24 at the clock", x.likeliest(2, 5), 0);
        int[][] wrong = {{3, 0}, {-1, 0}, {64, 0}, {0, -1}, {0, 6}, {LOW, 0}, {0, HIGH}};
        for (int[] w : wrong) {
            due("24 wrong " + w[0] + " " + w[1], x.likeliest(w[0], w[1]), BAD);
        }
    }

    private static void look() {
        HandInHand x = new HandInHand();
        int[][] wrong = {{-1, 1}, {64, 1}, {0, 0}, {0, 10}, {LOW, 1}, {0, HIGH}, {0, -1}};
        for (int[] w : wrong) {
            due("25 wrong " + w[0] + " " + w[1], x.look(w[0], w[1]), BAD);
        }
        for (int k = 1; k <= 5; k++) {
            due("25 look", x.look(k == 1 ? 63 : 0, k == 1 ? 9 : 1), k);
        }
        due("25 full", x.look(0, 1), FULL);
        due("25 bad ahead of full", x.look(0, 0), BAD);
        due("25 looks", x.count(7), 5);
    }

    private static void forget() {
        HandInHand x = Check.with(LINE, "", "");
        x.look(7, 1);
        x.look(6, 1);
        due("26 forget", x.forget(), 2);
        due("26 none left", x.forget(), 0);
        due("26 count", x.count(7), 0);
        x.look(1, 3);
        due("26 old looks are gone", x.seek(0, -2), 1);
    }

    private static long[] seek(HandInHand x, int person) {
        return new long[] {x.seek(person, -2), x.seek(person, NONE)};
    }

    private static void dueRow(String call, HandInHand x, int person, int... row) {
        for (int i = 0; i < 5; i++) {
            due(call + " " + i, x.seek(person, i), i < row.length ? row[i] : NONE);
        }
    }

    private static void seek() {
        HandInHand x = Check.with(LINE, "", "");
        x.person(4, 1, 3);
        x.look(7, 1);
        x.look(0, 1);
        dueFraction("27 the mean", seek(x, 4), 13, 2);
        dueRow("27 the nearer first", x, 4, 1, 0);
        x.look(7, 8);
        dueFraction("27 by weights", seek(x, 4), 47, 10);
        dueRow("27 by weights, of like ones the least", x, 4, 0, 2, 1);
        dueFraction("27 another stands elsewhere", seek(x, 0), 63, 10);
        dueRow("27 another stands elsewhere", x, 0, 1, 0, 2);
        x.forget();
        x.look(4, 2);
        x.look(2, 2);
        dueFraction("27 lowest terms", seek(x, 4), 2, 1);
        dueRow("27 of like ones the least", x, 4, 0, 1);
        x.forget();
        x.look(3, 9);
        dueFraction("27 here", seek(x, 4), 0, 1);
        int[][] wrong = {{-1, 0}, {5, 0}, {0, -3}, {0, 5}, {LOW, 0}, {0, HIGH}, {0, LOW}};
        for (int[] w : wrong) {
            due("27 wrong " + w[0] + " " + w[1], x.seek(w[0], w[1]), Check.LONG_BAD);
        }
    }

    private static void seekNot() {
        HandInHand x = Check.with("00#0", "", "");
        due("27 no looks", x.seek(0, 0), Check.LONG_NOT);
        due("27 bad ahead of not", x.seek(0, 5), Check.LONG_BAD);
        x.look(1, 1);
        due("27 a look", x.seek(0, -2), 1);
        x.person(1, 1, 2);
        due("27 stands at a post", x.seek(1, -2), Check.LONG_NOT);
        x.person(1, 1, 8);
        due("27 stands nowhere", x.seek(1, -2), Check.LONG_NOT);
        x.person(1, 1, 3);
        due("27 no way goes", x.seek(1, -2), Check.LONG_NOT);
        x.look(2, 1);
        due("27 a look at a post", x.seek(0, -2), Check.LONG_NOT);
        x.forget();
        x.look(1, 1);
        x.look(3, 1);
        due("27 no way to some look", x.seek(0, 0), Check.LONG_NOT);
    }

    private static void dueParted(String call, HandInHand x, int a, int b, long... answers) {
        for (int what = 0; what < 3; what++) {
            due(call + " " + what, x.parted(a, b, what), answers[what]);
        }
    }

    private static void parted() {
        HandInHand x = Check.with(LINE, "", "");
        x.person(1, 1, 7);
        x.look(0, 1);
        x.look(7, 1);
        dueParted("28 each at its own", x, 0, 1, 0, 1, 1);
        dueParted("28 the other way", x, 1, 0, 0, 1, 2);
        x.look(1, 1);
        x.look(5, 2);
        dueParted("28 the nearer ones", x, 0, 1, 1, 1, 5);
        dueParted("28 both at one place: one takes all", Check.with("0", "", ""), 0, 1,
                Check.LONG_NOT, Check.LONG_NOT, Check.LONG_NOT);
        HandInHand y = Check.with("0", "", "");
        y.look(0, 3);
        y.look(0, 4);
        dueParted("28 of like ones the least bits", y, 3, 4, 0, 1, 0);
        int[][] wrong = {{0, 0, 0}, {4, 4, 2}, {-1, 0, 0}, {0, -1, 0}, {5, 0, 0}, {0, 5, 0}, {0, 1, -1}, {0, 1, 3},
            {LOW, 0, 0}, {0, HIGH, 0}, {0, 1, HIGH}};
        for (int[] w : wrong) {
            due("28 wrong " + w[0] + " " + w[1] + " " + w[2], x.parted(w[0], w[1], w[2]), Check.LONG_BAD);
        }
    }

    private static void partedNot() {
        HandInHand x = Check.with("00#0", "", "");
        dueParted("28 no looks", x, 0, 1, Check.LONG_NOT, Check.LONG_NOT, Check.LONG_NOT);
        due("28 bad ahead of not", x.parted(0, 0, 0), Check.LONG_BAD);
        x.look(1, 1);
        dueParted("28 both reach it", x, 0, 1, 1, 1, 0);
        for (int stand : new int[] {2, 3, 63}) {
            x.person(1, 1, stand);
            due("28 the second does not, and takes none", x.parted(0, 1, 0), Check.LONG_NOT);
            due("28 the first does not, and takes none", x.parted(1, 0, 0), Check.LONG_NOT);
        }
    }

    private static void meet() {
        HandInHand x = Check.with(LINE, "", "");
        x.person(1, 1, 7);
        due("29 the least of like ones", x.meet(3, 0), 3);
        due("29 how far", x.meet(3, 1), 4);
        due("29 one alone", x.meet(2, 0), 7);
        due("29 one alone", x.meet(2, 1), 0);
        due("29 all", x.meet(31, 1), 4);
        int[][] wrong = {{0, 0}, {32, 0}, {-1, 0}, {3, -1}, {3, 2}, {LOW, 0}, {HIGH, 0}, {3, HIGH}};
        for (int[] w : wrong) {
            due("29 wrong " + w[0] + " " + w[1], x.meet(w[0], w[1]), BAD);
        }
        HandInHand parts = Check.with("0#0", "", "");
        parts.person(1, 1, 2);
        parts.person(2, 1, 1);
        parts.person(3, 1, 63);
        for (int what = 0; what < 2; what++) {
            due("29 no way", parts.meet(3, what), NONE);
            due("29 at a post", parts.meet(4, what), NONE);
            due("29 nowhere", parts.meet(9, what), NONE);
        }
        due("29 those who can", parts.meet(17, 0), 0);
        due("29 no fair", new HandInHand().meet(1, 0), NONE);
    }

    private static void counts() {
        HandInHand x = new HandInHand();
        int[][] cases = {{1, 0, 0, 1}, {60, 3, 2, 10}, {10, 5, 1, 5}, {99, 1, 0, 50}, {99, 99, 99, 9},
            {60, 9, 0, 60}, {61, 9, 0, 31}, {59, 1, 0, 59}, {99, 0, 99, 1}, {1, 99, 0, 1}, {99, 99, 0, 50},
            {10, 3, 0, 10}, {10, 3, 1, 5}, {2, 3, 1, 2}, {2, 3, 3, 1}, {2, 3, 4, 1}};
        for (int[] c : cases) {
            due("30 counts " + c[0] + " " + c[1] + " " + c[2], x.counts(c[0], c[1], c[2]), c[3]);
        }
        int[][] wrong = {{0, 1, 1}, {100, 1, 1}, {1, -1, 1}, {1, 100, 1}, {1, 1, -1}, {1, 1, 100}, {LOW, 1, 1},
            {1, HIGH, 1}, {1, 1, LOW}};
        for (int[] w : wrong) {
            due("30 wrong " + w[0] + " " + w[1] + " " + w[2], x.counts(w[0], w[1], w[2]), BAD);
        }
    }

    private static void sheet() {
        HandInHand x = new HandInHand();
        due("31 a row", x.sheet(3, 2, 64), 64);
        due("31 an empty row", x.sheet(2, 0, 0), 0);
        due("31 items are 0", x.get(3, 2, 63), 0);
        x.lay(3, 2, 5, 9);
        due("31 a new row", x.sheet(3, 1, 6), 6);
        due("31 of new items", x.get(3, 1, 5), 0);
        due("31 and no more", x.get(3, 1, 6), LEAST);
        int[][] wrong = {{-1, 0, 0}, {4, 0, 0}, {0, -1, 0}, {0, 3, 0}, {0, 0, 65}, {LOW, 0, 0}, {0, HIGH, 0},
            {0, 0, HIGH}, {4, 0, -1}, {0, 3, -1}};
        for (int[] w : wrong) {
            due("31 wrong " + w[0] + " " + w[1] + " " + w[2], x.sheet(w[0], w[1], w[2]), BAD);
        }
        due("31 bad is no finding", x.count(8), 2);
        due("31 size", x.sheet(3, 0, -1), SIZE);
        due("31 finding", x.count(8), 5);
        due("31 size far below", x.sheet(0, 0, LOW), SIZE);
        due("31 kept", x.lose(3), 6);
        due("31 still lost", x.lose(0), NULL);
    }

    private static void lose() {
        HandInHand x = new HandInHand();
        due("32 lost at first", x.lose(1), NULL);
        due("32 finding", x.count(8), 1);
        x.sheet(1, 1, 7);
        due("32 lose", x.lose(1), 7);
        due("32 lost again", x.lose(1), NULL);
        for (int s : new int[] {-1, 4, LOW, HIGH}) {
            due("32 wrong " + s, x.lose(s), BAD);
        }
        x.sheet(1, 1, 0);
        due("32 an empty one", x.lose(1), 0);
    }

    private static void lay() {
        HandInHand x = new HandInHand();
        for (int form = 0; form < 3; form++) {
            due("33 lost", x.lay(form, form, -1, 1), NULL);
            x.sheet(form, form, 3);
            due("33 lay", x.lay(form, form, 2, 0x12345678), 1);
            due("33 another form", x.lay(form, (form + 1) % 3, 9, 1), CAST);
            due("33 finding", x.count(8), 3);
            for (int i : new int[] {-1, 3, LOW, HIGH}) {
                due("33 no item " + i, x.lay(form, form, i, 1), INDEX);
            }
            due("33 finding", x.count(8), 2);
        }
        due("33 lowest 8 bits", x.get(0, 0, 2), 0x78);
        due("33 lowest 16 bits", x.get(1, 1, 2), 0x5678);
        due("33 all bits", x.get(2, 2, 2), 0x12345678);
        x.lay(0, 0, 0, 128);
        x.lay(1, 1, 0, 0x8000);
        due("33 a byte's sign", x.get(0, 0, 0), -128);
        due("33 a short's sign", x.get(1, 1, 0), -32768);
        int[][] wrong = {{-1, 0}, {4, 0}, {0, -1}, {0, 3}, {LOW, 0}, {0, HIGH}, {3, 3}};
        for (int[] w : wrong) {
            due("33 wrong " + w[0] + " " + w[1], x.lay(w[0], w[1], 0, 0), BAD);
        }
        due("33 lost, whatever else", x.lay(3, 0, -1, 0), NULL);
    }

    private static void get() {
        HandInHand x = new HandInHand();
        due("34 wrong sheet", x.get(4, 0, 0), LEAST);
        due("34 wrong sheet", x.get(-1, 0, 0), LEAST);
        due("34 wrong form", x.get(0, 3, 0), LEAST);
        due("34 wrong form", x.get(0, -1, 0), LEAST);
        due("34 no finding", x.count(8), 0);
        due("34 lost", x.get(0, 0, 0), LEAST);
        due("34 null", x.count(8), 1);
        x.sheet(0, 1, 2);
        due("34 another form", x.get(0, 2, 5), LEAST);
        due("34 cast", x.count(8), 3);
        for (int i : new int[] {-1, 2, LOW, HIGH}) {
            x.get(0, 2, 0);
            due("34 no item " + i, x.get(0, 1, i), LEAST);
            due("34 index", x.count(8), 2);
        }
        x.lay(0, 1, 1, -5);
        due("34 item", x.get(0, 1, 1), -5);
        due("34 the finding stays", x.count(8), 2);
    }

    private static void dueItems(String call, HandInHand x, int s, int... items) {
        for (int i = 0; i < items.length; i++) {
            due(call + " " + i, x.get(s, 2, i), items[i]);
        }
    }

    private static void copy() {
        HandInHand x = new HandInHand();
        due("35 wrong ahead of null", x.copy(0, 0, 4, 0, 0), BAD);
        due("35 wrong", x.copy(-1, 0, 0, 0, 0), BAD);
        due("35 null", x.copy(0, 0, 0, 0, 0), NULL);
        x.sheet(0, 2, 4);
        for (int i = 0; i < 4; i++) {
            x.lay(0, 2, i, i + 1);
        }
        due("35 null behind", x.copy(0, 0, 1, 0, 9), NULL);
        due("35 null ahead", x.copy(1, 0, 0, 0, 9), NULL);
        x.sheet(1, 1, 4);
        due("35 store ahead of index", x.copy(0, -1, 1, 0, 9), STORE);
        due("35 finding", x.count(8), 4);
        x.sheet(1, 2, 3);
        due("35 copy", x.copy(0, 2, 1, 1, 2), 1);
        dueItems("35 copied", x, 1, 0, 3, 4);
        due("35 up in itself", x.copy(0, 0, 0, 1, 3), 1);
        dueItems("35 as they were", x, 0, 1, 1, 2, 3);
        due("35 down in itself", x.copy(0, 1, 0, 0, 3), 1);
        dueItems("35 as they were", x, 0, 1, 2, 3, 3);
        due("35 none at the ends", x.copy(0, 4, 1, 3, 0), 1);
        int[][] wrong = {{-1, 0, 1}, {0, -1, 1}, {0, 0, -1}, {0, 0, 4}, {2, 0, 3}, {0, 2, 2}, {5, 0, 0}, {0, 4, 0},
            {HIGH, 0, 1}, {0, HIGH, 1}, {1, 1, HIGH}, {0, 0, LOW}, {LOW, LOW, LOW}};
        for (int[] w : wrong) {
            due("35 index " + w[0] + " " + w[1] + " " + w[2], x.copy(0, w[0], 1, w[1], w[2]), INDEX);
        }
        due("35 finding", x.count(8), 2);
        dueItems("35 kept", x, 1, 0, 3, 4);
    }

    private static void write() {
        HandInHand x = Check.with("00#0;0##0", "", "");
        due("36 lost", x.write(0, 0), NULL);
        due("36 finding", x.count(8), 1);
        due("36 a post ahead of lost", x.write(2, 0), BAD);
        due("36 no place", x.write(16, 0), BAD);
        due("36 no place", x.write(-1, 0), BAD);
        due("36 no sheet", x.write(0, 4), BAD);
        due("36 no sheet", x.write(0, -1), BAD);
        x.sheet(0, 2, 10);
        due("36 write", x.write(1, 0), 10);
        dueItems("36 near", x, 0, 1, 0, NONE, NONE, NONE, NONE, NONE, NONE, 2, NONE);
        x.sheet(1, 0, 1);
        due("36 one byte", x.write(1, 1), 1);
        due("36 near", x.get(1, 0, 0), 1);
        x.sheet(2, 1, 64);
        due("36 all", x.write(3, 2), 64);
        due("36 none is no place", x.get(2, 1, 63), NONE);
        due("36 below", x.get(2, 1, 11), 1);
        x.sheet(3, 1, 0);
        due("36 no items", x.write(3, 3), 0);
    }

    private static void count() {
        HandInHand x = Check.with("0#0;000", "cab", "eses");
        x.set(0, 8);
        x.look(1, 1);
        x.lose(0);
        int[] answers = {5, 3, 4, 1, 7, 3, 4, 1, 1};
        for (int what = 0; what < 9; what++) {
            due("37 count " + what, x.count(what), answers[what]);
        }
        for (int what : new int[] {-1, 9, LOW, HIGH}) {
            due("37 wrong " + what, x.count(what), BAD);
        }
        for (int text = 0; text < 3; text++) {
            x.type(text, '!');
        }
        int[] faulty = {0, 0, 0, 0, 8, 4, 5, 1, 1};
        for (int what = 0; what < 9; what++) {
            due("37 with faults " + what, x.count(what), faulty[what]);
        }
    }

    private static long mixed(long... values) {
        return mixedOn(17, values);
    }

    private static long mixedOn(long before, long... values) {
        long h = before;
        for (long v : values) {
            h = 31 * h + v;
        }
        return h;
    }

    private static long digestByCalls(HandInHand x) {
        long h = mixed(x.count(0), x.count(1), x.count(2), x.count(3), x.count(4), x.count(5), x.count(6), x.count(7),
                x.fault(0), x.fault(1), x.fault(2), x.judged(), x.at(x.count(3)), x.loose(), x.risk(), x.alike(0),
                x.alike(1));
        for (int person = 0; person < 5; person++) {
            h = mixedOn(h, x.order(person), x.seek(person, -2), x.seek(person, -1), x.seek(person, 0));
        }
        h = mixedOn(h, x.near(0, 9), x.easiest(0, 9, -2), x.easiest(0, 9, -1), x.easiest(0, 9, 0), x.easiest(0, 9, 1));
        h = mixedOn(h, x.best(31, -1), x.best(31, 0), x.best(31, 1), x.best(31, 2), x.best(31, 3), x.best(31, 4));
        h = mixedOn(h, x.holds(0, 0, 2, 0), x.torn(7, 0), x.torn(7, 1), x.torn(7, 2), x.torn(7, 3), x.fairs(7, 9));
        return mixedOn(h, x.is(0, 3, 1, 0), x.is(0, 3, 1, 1), x.likeliest(0, 4), x.parted(0, 1, 0),
                x.parted(0, 1, 1), x.parted(0, 1, 2), x.meet(7, 0), x.meet(7, 1), x.counts(60, 3, 2));
    }

    private static void digest() {
        long not = Check.LONG_NOT, bad = Check.LONG_BAD;
        due("38 of a new object", new HandInHand().digest(), mixed(0, 0, 0, 0, 0, 0, 0, 0, -1, -1, -1,
                -1, -3, 0, 0, 1, 1,
                -1, not, not, not, -1, not, not, not, -1, not, not, not, -1, not, not, not, -1, not, not, not,
                -2, -2, -2, -2, -2, 32, 0, 1, 2, 3, 4, bad, -1, -1, 0, 0, 0, bad, bad, -2,
                not, not, not, -1, -1, 10));
        HandInHand x = Check.with("00;00", "ba", "es");
        x.set(2, 1);
        x.look(1, 2);
        x.person(1, 1, 9);
        // Each minute is one of three PLACES: of 9 parts 3, 2, 2, 2 are at 0, 1, 8, 9 behind two, so 7 of 27 at 1.
        due("38 of a small fair", x.digest(), mixed(4, 2, 2, 2, 5, 2, 2, 1, -1, -1, -1,
                -1, 9, 8, 0, 1, 2,
                1, 1, 1, 0, 0, 1, 1, 0, -1, 1, 1, 0, -1, 1, 1, 0, -1, 1, 1, 0,
                2, 0, 2, 1, 2, 32, 0, 1, 2, 3, 4, 1, -1, -1, 0, 0, 0, 7, 27, 0,
                1, 1, 0, 1, 1, 10));
        HandInHand rich = Check.with("02#3;1900;0#24", "cadbe", "essenneww");
        for (int k = 0; k < 5; k++) {
            rich.look(new int[] {0, 9, 19, 16, 11}[k], 9 - k);
            rich.person(k, 0, 3 * k);
            rich.person(k, 1, new int[] {3, 8, 18, 0, 1}[k]);
            rich.grip(k, (k + 1) % 5, 2 + k);
        }
        for (int rule = 0; rule < 3; rule++) {
            rich.set(1, 9);
            rich.set(2, rule);
            due("38 of a fair with all, by rule " + rule, rich.digest(), digestByCalls(rich));
        }
        long before = x.digest();
        x.lose(0);
        due("38 not by findings", x.digest(), before);
    }

    /** A question leaves nothing behind by which another one could answer otherwise. */
    private static void questionsInAnyOrder() {
        String[] questions = {"seek 0 -2", "seek 3 1", "parted 0 3 0", "parted 3 1 2", "best 31 -1", "best 31 0",
            "best 22 1", "is 0 5 9 0", "is 9 3 0 1", "likeliest 0 4", "near 0 19", "easiest 0 19 -2", "easiest 19 0 2",
            "meet 31 0", "meet 9 1", "torn 5 0", "torn 5 3", "fairs 5 9", "holds 1 0 2 0", "alike 1", "digest"};
        for (int rule = 0; rule < 3; rule++) {
            Caller all = asked(rule);
            for (String first : questions) {
                long answer = asked(rule).call(first);
                due("asked among others: " + first, all.call(first), answer);
            }
            for (int k = questions.length - 1; k >= 0; k--) {
                due("asked again: " + questions[k], all.call(questions[k]), asked(rule).call(questions[k]));
            }
        }
    }

    private static Caller asked(int rule) {
        Caller x = new Caller();
        x.typeAll(0, "02#3;1900;0#24");
        x.typeAll(1, "cadb");
        x.typeAll(2, "eseewwn");
        x.callAll("set 1 19, look 19 3, look 16 9, look 3 1, person 0 1 18, person 3 1 1, grip 0 2 1, grip 2 4 13");
        x.call("set 2 " + rule);
        return x;
    }
}
