/** What the tests of boundary sentences share. Their objects stay within the 512 calls that are promised. */
abstract class Bounds {
    static final int NONE = HandInHand.NONE, BAD = HandInHand.BAD, NOT = HandInHand.NOT, FULL = HandInHand.FULL;
    static final int NULL = -11, INDEX = -12, CAST = -13, STORE = -14, SIZE = -15;
    static final int LOW = Integer.MIN_VALUE, HIGH = Integer.MAX_VALUE;
    static final long LONG_BAD = Check.LONG_BAD, LONG_NOT = Check.LONG_NOT;

    /** One row of eight, and a fair of eight such rows: 71 bytes, the longest text. */
    static final String ROW = "00000000", SQUARE = (ROW + ";").repeat(7) + ROW;

    static void due(String call, long got, long want) {
        Check.due(call, got, want);
    }

    static void that(String what, boolean holds) {
        Check.that(what, holds);
    }

    static HandInHand with(String fair, String order, String way) {
        return Check.with(fair, order, way);
    }

    static HandInHand fairOf(String fair) {
        return Check.with(fair, "", "");
    }

    static HandInHand withItems(int s, int form, int... items) {
        HandInHand x = new HandInHand();
        layAll(x, s, form, items);
        return x;
    }

    static void layAll(HandInHand x, int s, int form, int... items) {
        x.sheet(s, form, items.length);
        for (int i = 0; i < items.length; i++) {
            x.lay(s, form, i, items[i]);
        }
    }

    static void dueFault(int text, String bytes, int place) {
        HandInHand x = new HandInHand();
        Check.typeAll(x, text, bytes);
        due("fault of text " + text + ", " + bytes, x.fault(text), place);
    }

    static void dueFraction(String call, long above, long below, long dueAbove, long dueBelow) {
        due(call + ", above", above, dueAbove);
        due(call + ", below", below, dueBelow);
    }
}
