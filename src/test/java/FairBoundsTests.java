/** Boundary sentences on texts and on what is set: promises 1 to 9, and the terms these stand on. */
public final class FairBoundsTests extends Bounds {
    private FairBoundsTests() {
    }

    public static void main(String[] args) throws ReflectiveOperationException {
        Check.runAll(FairBoundsTests.class);
        Check.end();
    }

    // ---- what it is

    @Says(promise = 0, words = "1 THE FAIR (text 0) is up to 8 rows with ; between them,")
    static void fairHasUpToEightRows() {
        HandInHand x = fairOf("1");
        due("places of one row", x.count(0), 1);
        Check.typeAll(x, 0, "1;2;3;4;5;6;7;8");
        due("fault of eight rows", x.fault(0), NONE);
        due("places of eight rows", x.count(0), 8);
        due("dense in the eighth row", x.dense(56), 8);
        x.type(0, ';');
        x.type(0, '9');
        due("fault of nine rows", x.fault(0), 16);
        due("places of nine rows", x.count(0), 0);
        dueFault(0, "1:2", 1);
        dueFault(0, "1<2", 1);
    }

    @Says(promise = 0, words = "all as wide as the first (1 to 8):")
    static void fairIsOneToEightWide() {
        dueFault(0, ";", 0);
        dueFault(0, ";1", 0);
        dueFault(0, "1;1", NONE);
        dueFault(0, ROW + ";" + ROW, NONE);
        dueFault(0, ROW + "0", 8);
        dueFault(0, "123;12;", 6);
        dueFault(0, "123;123", NONE);
        dueFault(0, "123;1234", 7);
        due("places, eight wide", fairOf(SQUARE).count(0), 64);
    }

    @Says(promise = 0, words = "figures (how DENSE a PLACE is) and # (a post, where nobody can be).")
    static void fairIsOfFiguresAndPosts() {
        HandInHand x = fairOf("0#9");
        due("dense of the least figure", x.dense(0), 0);
        due("dense of a post", x.dense(1), BAD);
        due("dense of the most", x.dense(2), 9);
        due("places", x.count(0), 2);
        for (int b : new int[] {'0' - 1, '9' + 1, '#' - 1, '#' + 1, ' ', 0, 255, 'a'}) {
            dueFault(0, "1" + (char) b, 1);
        }
        HandInHand posts = fairOf("##;##");
        due("fault of posts alone", posts.fault(0), NONE);
        due("places of posts alone", posts.count(0), 0);
        due("a post in the middle of a way", x.near(0, 2), NONE);
    }

    @Says(promise = 0, words =
        "An object is used for at most 512 calls after it has been made; what later calls answer is free.")
    static void objectAnswersItsCall512() {
        HandInHand x = new HandInHand();
        for (int k = 0; k < 508; k++) {
            x.counts(1, 1, 1);
        }
        due("call 509", x.type(0, '7'), 1);
        due("call 510", x.dense(0), 7);
        due("call 511", x.sheet(3, 2, 64), 64);
        due("call 512", x.write(0, 3), 64);
    }

    // ---- terms: texts

    @Says(promise = 0, words =
        "PLACES are 8 times the row and the column (0 to 63): those that there are, and are no posts.")
    static void placesAreEightTimesTheRowAndTheColumn() {
        HandInHand x = fairOf("1" + SQUARE.substring(1, 70) + "2");
        due("the first", x.dense(0), 1);
        due("ahead of the first", x.dense(-1), BAD);
        due("the last", x.dense(63), 2);
        due("behind the last", x.dense(64), BAD);
        HandInHand small = fairOf("123;4#6");
        int[] dense = {1, 2, 3, BAD, BAD, BAD, BAD, BAD, 4, BAD, 6, BAD};
        for (int place = 0; place < dense.length; place++) {
            due("dense " + place, small.dense(place), dense[place]);
        }
        due("a row that is not there", small.dense(16), BAD);
        due("places", small.count(0), 5);
    }

    @Says(promise = 0, words = "The FAULT of a text is the place of the first byte with which it cannot go on")
    static void faultIsTheFirstByteThatCannotGoOn() {
        dueFault(0, "x", 0);
        dueFault(0, "xx;x", 0);
        dueFault(0, "1x;yyy;", 1);
        dueFault(0, SQUARE.substring(0, 70) + "x", 70);
        dueFault(1, "fa", 0);
        dueFault(1, "abcdf", 4);
        dueFault(1, "afzza", 1);
        dueFault(2, "xn", 0);
        dueFault(2, "n".repeat(39) + "x", 39);
        dueFault(2, "nxex", 1);
    }

    @Says(promise = 0, words = "(an empty one is well;")
    static void emptyTextIsWell() {
        HandInHand x = new HandInHand();
        for (int text = 0; text < 3; text++) {
            due("fault of a new text " + text, x.fault(text), NONE);
            x.type(text, '!');
            due("fault " + text, x.fault(text), 0);
            x.undo(text);
            due("fault of an undone text " + text, x.fault(text), NONE);
            x.type(text, '!');
            x.wipe(text);
            due("fault of a wiped text " + text, x.fault(text), NONE);
        }
    }

    @Says(promise = 0, words = "of one that is not ended, its end),")
    static void faultOfAnUnendedTextIsItsEnd() {
        dueFault(0, "1;", 2);
        dueFault(0, "12;1", 4);
        dueFault(0, ROW + ";", 9);
        dueFault(0, SQUARE.substring(0, 70), 70);
        dueFault(0, SQUARE, NONE);
        dueFault(1, "a", NONE);
        dueFault(2, "n", NONE);
    }

    @Says(promise = 0, words = "here also of a ninth column,")
    static void faultOfANinthColumn() {
        dueFault(0, ROW, NONE);
        dueFault(0, ROW + "0", 8);
        dueFault(0, ROW + "#;", 8);
        dueFault(0, ROW + ";" + ROW + "0", 17);
    }

    @Says(promise = 0, words = "of a byte more than the first row has,")
    static void faultOfAByteMoreThanTheFirstRowHas() {
        dueFault(0, "1;12", 3);
        dueFault(0, "1;1#", 3);
        dueFault(0, "123;123;1234", 11);
        dueFault(0, "1234567;12345678", 15);
    }

    @Says(promise = 0, words = "of a ; or the end that comes too soon,")
    static void faultOfASeparatorOrAnEndTooSoon() {
        dueFault(0, ";", 0);
        dueFault(0, "1;;", 2);
        dueFault(0, "12;;", 3);
        dueFault(0, "12;1;", 4);
        dueFault(0, "12;", 3);
        dueFault(0, "12;1", 4);
        dueFault(0, "12;12;", 6);
    }

    @Says(promise = 0, words = "or of the first byte of a ninth row.")
    static void faultOfTheFirstByteOfANinthRow() {
        String eight = "1;1;1;1;1;1;1;1";
        dueFault(0, eight, NONE);
        dueFault(0, eight + ";", 16);
        dueFault(0, eight + ";1", 16);
        dueFault(0, eight + ";;", 16);
        dueFault(0, eight + ";x", 16);
        dueFault(0, eight + "1", 15);
        String wide = "1234567;".repeat(7) + "1234567";
        dueFault(0, wide + ";1234567", 64);
    }

    @Says(promise = 0, words =
        "ORDER (text 1) are letters a to e, PERSONS 0 to 4, none twice: who goes first, and so on.")
    static void orderIsOfLettersAToENoneTwice() {
        HandInHand x = with("", "aecdb", "");
        int[] row = {0, 4, 2, 3, 1};
        for (int i = 0; i < 5; i++) {
            due("who goes " + i, x.order(i), row[i]);
        }
        for (int b : new int[] {'a' - 1, 'e' + 1, 'A', 'E', '0', 0, 255}) {
            dueFault(1, "b" + (char) b, 1);
        }
        dueFault(1, "aa", 1);
        dueFault(1, "abcda", 4);
        dueFault(1, "abcdd", 4);
        dueFault(1, "abcde", NONE);
    }

    @Says(promise = 0, words =
        "THE WAY (text 2) are letters n, e, s, w (row less 1; column and 1; row and 1; column less 1).")
    static void wayIsOfFourLetters() {
        HandInHand x = with(SQUARE, "", "nesw");
        x.set(0, 9);
        int[] path = {9, 1, 2, 10, 9};
        for (int k = 0; k < 5; k++) {
            due("behind " + k, x.at(k), path[k]);
        }
        for (int b : new int[] {'n' - 1, 'n' + 1, 'e' - 1, 'e' + 1, 's' - 1, 's' + 1, 'w' - 1, 'w' + 1, 'N', 0, 255}) {
            dueFault(2, "n" + (char) b, 1);
        }
        dueFault(2, "nesw".repeat(10), NONE);
    }

    @Says(promise = 0, words = "With a FAULT a text is as if it was empty.")
    static void textWithAFaultIsAsIfEmpty() {
        HandInHand x = with("12;34", "ab", "es");
        x.type(0, 'x');
        due("places", x.count(0), 0);
        due("dense", x.dense(0), BAD);
        due("start is no place", x.at(0), NOT);
        due("judged", x.judged(), 0);
        due("persons are there still", x.count(1), 2);
        x.undo(0);
        due("places again", x.count(0), 4);
        x.type(1, 'a');
        due("persons", x.count(1), 0);
        due("who goes first", x.order(0), NONE);
        due("loose", x.loose(), 0);
        due("alike, of none", x.alike(1), 1);
        due("steps are there still", x.count(3), 2);
        x.undo(1);
        x.type(2, 'x');
        due("steps", x.count(2), 0);
        due("steps done", x.count(3), 0);
        due("judged", x.judged(), NONE);
        due("risk", x.risk(), 0);
        due("bytes are there still", x.count(6), 3);
        x.undo(2);
        due("risk again", x.risk(), (2 + 4) * 8);
    }

    @Says(promise = 0, words = "Texts have up to 71, 5, 40 bytes.")
    static void textsHaveUpToTheirBytes() {
        int[] most = {71, 5, 40};
        for (int text = 0; text < 3; text++) {
            HandInHand x = new HandInHand();
            for (int k = 1; k < most[text]; k++) {
                x.type(text, 'a');
            }
            due("the last byte of text " + text, x.type(text, 'b'), most[text]);
            due("one more", x.type(text, 'c'), FULL);
            due("bytes", x.count(4 + text), most[text]);
            due("one is undone", x.undo(text), most[text] - 1);
            due("there is room again", x.type(text, 'd'), most[text]);
            due("other texts have room", x.type((text + 1) % 3, 'a'), 1);
        }
    }

    // ---- terms: what is set

    @Says(promise = 0, words =
        "START (0 to 63; 0 at first), CLOCK (0 to 63; 0 at first), RULE (0 to 2; 0 at first).")
    static void startClockAndRuleHaveTheirBounds() {
        HandInHand x = new HandInHand();
        int[] most = {63, 63, 2};
        for (int what = 0; what < 3; what++) {
            due("at first " + what, x.set(what, most[what]), 0);
            due("one beyond the most " + what, x.set(what, most[what] + 1), BAD);
            due("the most " + what, x.set(what, 0), most[what]);
            due("one below the least " + what, x.set(what, -1), BAD);
            due("the least " + what, x.set(what, 1), 0);
            due("set again " + what, x.set(what, 1), 1);
        }
    }

    @Says(promise = 0, words = "GRIP of two PERSONS (0 to 16, the same both ways; 8 at first),")
    static void gripHasItsBoundsBothWays() {
        for (int a = 0; a < 5; a++) {
            for (int b = 0; b < 5; b++) {
                if (a != b) {
                    HandInHand x = new HandInHand();
                    due("at first", x.grip(a, b, 16), 8);
                    due("one beyond the most", x.grip(a, b, 17), BAD);
                    due("the most, the other way", x.grip(b, a, 0), 16);
                    due("one below the least", x.grip(b, a, -1), BAD);
                    due("the least", x.grip(a, b, 8), 0);
                }
            }
        }
        HandInHand x = new HandInHand();
        for (int a = 0; a < 5; a++) {
            for (int b = a + 1; b < 5; b++) {
                x.grip(a, b, 3 * a + b);
            }
        }
        for (int a = 0; a < 5; a++) {
            for (int b = a + 1; b < 5; b++) {
                due("each two have their own", x.grip(b, a, 0), 3 * a + b);
            }
        }
    }

    @Says(promise = 0, words =
        "HABIT of a PERSON (0 to 16; 8 at first), where a PERSON STANDS (0 to 63; 0 at first).")
    static void habitAndStandHaveTheirBounds() {
        HandInHand x = new HandInHand();
        for (int person = 0; person < 5; person++) {
            due("habit at first", x.person(person, 0, 16), 8);
            due("one beyond the most", x.person(person, 0, 17), BAD);
            due("the most", x.person(person, 0, 0), 16);
            due("one below the least", x.person(person, 0, -1), BAD);
            due("the least", x.person(person, 0, person), 0);
            due("stands at first", x.person(person, 1, 63), 0);
            due("one beyond the most", x.person(person, 1, 64), BAD);
            due("the most", x.person(person, 1, 0), 63);
            due("one below the least", x.person(person, 1, -1), BAD);
            due("the least", x.person(person, 1, 10 + person), 0);
        }
        for (int person = 0; person < 5; person++) {
            due("each has its own habit", x.person(person, 0, 0), person);
            due("each has its own stand", x.person(person, 1, 0), 10 + person);
        }
    }

    // ---- promises 1 to 9

    @Says(promise = 1, words = "Empty texts;")
    static void newObjectHasEmptyTexts() {
        HandInHand x = new HandInHand();
        for (int text = 0; text < 3; text++) {
            due("bytes", x.count(4 + text), 0);
            due("nothing to undo", x.undo(text), NOT);
            due("nothing to wipe", x.wipe(text), 0);
            due("the first byte", x.type(text, 'a'), 1);
        }
    }

    @Says(promise = 1, words = "all SHEETS are LOST.")
    static void newObjectHasLostSheets() {
        for (int s = 0; s < 4; s++) {
            HandInHand x = fairOf("0");
            due("read " + s, x.read(s), NULL);
            due("lay " + s, x.lay(s, 0, 0, 0), NULL);
            due("copy " + s, x.copy(s, 0, s, 0, 0), NULL);
            due("write " + s, x.write(0, s), NULL);
            due("lose " + s, x.lose(s), NULL);
            due("get " + s, x.get(s, 2, 0), LOW);
            due("the finding", x.count(8), 1);
        }
    }

    @Says(promise = 2, words = "A byte (0 to 255) comes behind a text: how many.")
    static void typeTakesBytes0To255() {
        HandInHand x = new HandInHand();
        due("below the least", x.type(0, -1), BAD);
        due("the least", x.type(0, 0), 1);
        due("the most", x.type(0, 255), 2);
        due("beyond the most", x.type(0, 256), BAD);
        // A byte that was cut to eight bits would be a figure, a letter a, a letter n.
        due("256 more than a figure", x.type(0, 256 + '1'), BAD);
        due("256 more than a", x.type(1, 256 + 'a'), BAD);
        due("256 more than n", x.type(2, 256 + 'n'), BAD);
        due("256 less than n", x.type(2, 'n' - 256), BAD);
        due("bytes", x.count(4), 2);
        due("bytes of the way", x.count(6), 0);
    }

    @Says(promise = 3, words = "A text is empty: how many bytes it had.")
    static void wipeTellsNoneAndAll() {
        HandInHand x = with(SQUARE, "abcde", "n".repeat(40));
        int[] most = {71, 5, 40};
        for (int text = 0; text < 3; text++) {
            due("a full text", x.wipe(text), most[text]);
            due("an empty text", x.wipe(text), 0);
            due("bytes", x.count(4 + text), 0);
            due("it begins anew", x.type(text, 'x'), 1);
            due("with its own fault", x.fault(text), 0);
        }
    }

    @Says(promise = 4, words = "The last byte of a text is undone: how many are left.")
    static void undoGoesFromFullToEmpty() {
        int[] most = {71, 5, 40};
        HandInHand x = with(SQUARE, "abcde", "n".repeat(40));
        for (int text = 0; text < 3; text++) {
            for (int left = most[text] - 1; left >= 0; left--) {
                due("left", x.undo(text), left);
            }
            due("empty", x.undo(text), NOT);
            due("still empty", x.count(4 + text), 0);
        }
        HandInHand y = with("", "ab", "");
        y.undo(1);
        y.type(1, 'c');
        due("the last, not the first", y.order(0), 0);
        due("another comes behind", y.order(1), 2);
    }

    @Says(promise = 5, words = "The FAULT of a text; NONE.")
    static void faultIsToldOfEachText() {
        HandInHand x = with("1x", "abb", "nesx");
        due("the fair", x.fault(0), 1);
        due("the order", x.fault(1), 2);
        due("the way", x.fault(2), 3);
        for (int text = 0; text < 3; text++) {
            x.undo(text);
            due("none " + text, x.fault(text), NONE);
        }
    }

    @Says(promise = 6, words = "START (what = 0), CLOCK (1), RULE (2): what it was.")
    static void setKeepsThreeNumbersApart() {
        HandInHand x = with(ROW, "", "e");
        x.set(0, 6);
        x.set(1, 5);
        x.set(2, 1);
        due("one step is done", x.at(1), 7);
        due("it wanders, by the rule", x.is(0, 1, 1, 1), 2);
        due("start", x.set(0, 7), 6);
        due("no step is done", x.count(3), 0);
        due("clock", x.set(1, 0), 5);
        due("rule", x.set(2, 2), 1);
        due("no such thing below", x.set(-1, 0), BAD);
        due("no such thing above", x.set(3, 0), BAD);
    }

    @Says(promise = 7, words = "GRIP: what it was.")
    static void gripTakesPersons0To4() {
        HandInHand x = new HandInHand();
        due("the least and the most", x.grip(0, 4, 1), 8);
        due("the most and the least", x.grip(4, 0, 2), 1);
        due("below", x.grip(-1, 4, 1), BAD);
        due("below, behind", x.grip(4, -1, 1), BAD);
        due("above", x.grip(5, 0, 1), BAD);
        due("above, behind", x.grip(0, 5, 1), BAD);
        due("as it was", x.grip(0, 4, 1), 2);
    }

    @Says(promise = 7, words = "BAD: also of one with itself.")
    static void gripOfOneWithItselfIsBad() {
        HandInHand x = new HandInHand();
        for (int a = 0; a < 5; a++) {
            due("itself " + a, x.grip(a, a, 8), BAD);
        }
        due("two who are not, alike", x.grip(5, 5, 8), BAD);
    }

    @Says(promise = 8, words = "HABIT (what = 0), where one STANDS (1): what it was.")
    static void personTakesPersons0To4AndTwoThings() {
        HandInHand x = new HandInHand();
        due("the least person", x.person(0, 0, 1), 8);
        due("below", x.person(-1, 0, 1), BAD);
        due("the most", x.person(4, 1, 62), 0);
        due("above", x.person(5, 1, 1), BAD);
        due("no such thing below", x.person(0, -1, 1), BAD);
        due("no such thing above", x.person(0, 2, 1), BAD);
        due("a stand is no habit", x.person(4, 0, 62), BAD);
        due("kept", x.person(4, 1, 0), 62);
        due("kept", x.person(0, 0, 0), 1);
    }

    private static void dueHabits(String call, HandInHand x, int... habits) {
        for (int person = 0; person < 5; person++) {
            due(call + ", habit of " + person, x.person(person, 0, 8), habits[person]);
        }
    }

    @Says(promise = 9, words = "HABITS of PERSONS 0 on by a SHEET, item by item, as long as each may be,")
    static void readGoesOnAsLongAsEachMayBe() {
        for (int form = 0; form < 3; form++) {
            HandInHand x = withItems(0, form, 0, 16, 17, 3, 4);
            due("up to one beyond the most", x.read(0), 2);
            dueHabits("two", x, 0, 16, 8, 8, 8);
            HandInHand y = withItems(0, form, 16, 0, 5, -1, 4);
            due("up to one below the least", y.read(0), 3);
            dueHabits("three", y, 16, 0, 5, 8, 8);
            HandInHand z = withItems(0, form, 17, 1, 2, 3, 4);
            due("the first may not be", z.read(0), 0);
            dueHabits("none", z, 8, 8, 8, 8, 8);
        }
        HandInHand cut = withItems(0, 0, 256 + 5, 128);
        due("a byte of 256 and 5 is 5, of 128 below 0", cut.read(0), 1);
        dueHabits("one", cut, 5, 8, 8, 8, 8);
        due("an int is not cut", withItems(0, 2, 256 + 5).read(0), 0);
        due("a short is not cut to a byte", withItems(0, 1, 256 + 5).read(0), 0);
    }

    @Says(promise = 9, words = "five at most: how many.")
    static void readTakesFiveAtMost() {
        due("no items", withItems(0, 0).read(0), 0);
        HandInHand four = withItems(0, 1, 1, 2, 3, 4);
        due("four items", four.read(0), 4);
        dueHabits("four", four, 1, 2, 3, 4, 8);
        HandInHand five = withItems(0, 1, 1, 2, 3, 4, 5);
        due("five items", five.read(0), 5);
        dueHabits("five", five, 1, 2, 3, 4, 5);
        HandInHand six = withItems(0, 2, 1, 2, 3, 4, 5, 6);
        due("six items", six.read(0), 5);
        dueHabits("six", six, 1, 2, 3, 4, 5);
        HandInHand all = new HandInHand();
        all.sheet(3, 0, 64);
        due("sixty-four items", all.read(3), 5);
        dueHabits("sixty-four", all, 0, 0, 0, 0, 0);
    }
}
