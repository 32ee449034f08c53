import java.math.BigInteger;
import java.util.ArrayList;
import java.util.List;

/** The document once more, in its slowest and plainest form: all ways, all rows, all splits are tried. */
final class Model {
    static final int NONE = -1, BAD = -2, NOT = -3, FULL = -4;
    static final long LONG_BAD = Long.MIN_VALUE + 2, LONG_NOT = Long.MIN_VALUE + 3;
    static final String LETTERS = "nesw";
    static final int[] LIMITS = {71, 5, 40};

    final StringBuilder[] texts = {new StringBuilder(), new StringBuilder(), new StringBuilder()};
    int start, clock, rule, finding;
    final int[][] grips = new int[5][5];
    final int[] habits = {8, 8, 8, 8, 8};
    final int[] stands = new int[5];
    final List<int[]> looks = new ArrayList<>();
    final Object[] sheets = new Object[4];

    Model() {
        for (int[] row : grips) {
            java.util.Arrays.fill(row, 8);
        }
    }

    static boolean within(int v, int low, int high) {
        return low <= v && v <= high;
    }

    // ---- texts

    int type(int text, int b) {
        if (!within(text, 0, 2) || !within(b, 0, 255)) return BAD;
        if (texts[text].length() == LIMITS[text]) return FULL;
        return texts[text].append((char) b).length();
    }

    int wipe(int text) {
        if (!within(text, 0, 2)) return BAD;
        int had = texts[text].length();
        texts[text].setLength(0);
        return had;
    }

    int undo(int text) {
        if (!within(text, 0, 2)) return BAD;
        int had = texts[text].length();
        if (had == 0) return NOT;
        texts[text].setLength(had - 1);
        return had - 1;
    }

    private final String[] judgedTexts = new String[3];
    private final int[] faults = new int[3];

    int fault(int text) {
        if (!within(text, 0, 2)) return BAD;
        String s = texts[text].toString();
        if (!s.equals(judgedTexts[text])) {
            judgedTexts[text] = s;
            faults[text] = faultOf(text, s);
        }
        return faults[text];
    }

    private static int faultOf(int text, String s) {
        for (int i = 0; i < s.length(); i++) {
            if (!canGoOn(text, s.substring(0, i + 1))) return i;
        }
        return isWell(text, s) ? NONE : s.length();
    }

    private static boolean canGoOn(int text, String s) {
        if (text == 2) return s.matches("[nesw]*");
        if (text == 1) return s.matches("[a-e]*") && s.chars().distinct().count() == s.length();
        for (int w = 1; w <= 8; w++) {
            String row = "[0-9#]{" + w + "}";
            String open = "[0-9#]{0," + w + "}";
            if (s.matches("(?s)(" + row + ";){0,7}" + open) || s.matches("(?s)(" + row + ";){8}")) return true;
        }
        return false;
    }

    private static boolean isWell(int text, String s) {
        if (text != 0 || s.isEmpty()) return true;
        String[] rows = s.split(";", -1);
        for (String row : rows) {
            if (row.length() != rows[0].length() || row.isEmpty()) return false;
        }
        return rows.length <= 8;
    }

    private String well(int text) {
        return fault(text) == NONE ? texts[text].toString() : "";
    }

    // ---- what is set

    int set(int what, int v) {
        if (!within(what, 0, 2) || !within(v, 0, what == 2 ? 2 : 63)) return BAD;
        int was = what == 0 ? start : what == 1 ? clock : rule;
        if (what == 0) start = v;
        if (what == 1) clock = v;
        if (what == 2) rule = v;
        return was;
    }

    int grip(int a, int b, int v) {
        if (!within(a, 0, 4) || !within(b, 0, 4) || a == b || !within(v, 0, 16)) return BAD;
        int was = grips[a][b];
        grips[a][b] = v;
        grips[b][a] = v;
        return was;
    }

    int person(int person, int what, int v) {
        if (!within(person, 0, 4) || !within(what, 0, 1) || !within(v, 0, what == 0 ? 16 : 63)) return BAD;
        int[] row = what == 0 ? habits : stands;
        int was = row[person];
        row[person] = v;
        return was;
    }

    int read(int s) {
        if (!within(s, 0, 3)) return BAD;
        if (sheets[s] == null) return found(1);
        int k = 0;
        for (; k < 5 && k < java.lang.reflect.Array.getLength(sheets[s]); k++) {
            int v = java.lang.reflect.Array.getInt(sheets[s], k);
            if (!within(v, 0, 16)) break;
            habits[k] = v;
        }
        return k;
    }

    // ---- ways

    private String known = null;
    private final int[] cells = new int[64];

    private int cell(int place) {
        if (!texts[0].toString().equals(known)) {
            known = texts[0].toString();
            String[] rows = well(0).split(";");
            for (int p = 0; p < 64; p++) {
                boolean is = p / 8 < rows.length && p % 8 < rows[p / 8].length();
                cells[p] = is && rows[p / 8].charAt(p % 8) != '#' ? rows[p / 8].charAt(p % 8) - '0' : NONE;
            }
        }
        return within(place, 0, 63) ? cells[place] : NONE;
    }

    private boolean[] placeMap() {
        boolean[] map = new boolean[64];
        for (int p = 0; p < 64; p++) map[p] = cell(p) != NONE;
        return map;
    }

    private static int go(int p, int d) {
        int row = p / 8 + new int[] {-1, 0, 1, 0}[d], column = p % 8 + new int[] {0, 1, 0, -1}[d];
        return within(row, 0, 7) && within(column, 0, 7) ? 8 * row + column : NONE;
    }

    private static List<Integer> besides(boolean[] map, int p) {
        List<Integer> list = new ArrayList<>();
        for (int d = 0; d < 4; d++) {
            int q = go(p, d);
            if (q != NONE && map[q]) list.add(q);
        }
        return list;
    }

    int dense(int place) {
        int v = cell(place);
        return v == NONE ? BAD : v;
    }

    private List<Integer> walked() {
        List<Integer> path = new ArrayList<>();
        if (cell(start) == NONE) return path;
        path.add(start);
        boolean[] map = placeMap();
        for (char c : well(2).toCharArray()) {
            int next = go(path.get(path.size() - 1), LETTERS.indexOf(c));
            if (next == NONE || !map[next]) break;
            path.add(next);
        }
        return path;
    }

    private int done() {
        return Math.max(walked().size() - 1, 0);
    }

    int judged() {
        return done() < well(2).length() ? done() : NONE;
    }

    int at(int k) {
        if (!within(k, 0, done())) return BAD;
        return cell(start) == NONE ? NOT : walked().get(k);
    }

    private int[] steps(int from) {
        boolean[] map = placeMap();
        int[] steps = new int[64];
        java.util.Arrays.fill(steps, NONE);
        if (!within(from, 0, 63) || !map[from]) return steps;
        steps[from] = 0;
        for (int far = 0; far < 64; far++) {
            for (int p = 0; p < 64; p++) {
                if (steps[p] == far) {
                    for (int q : besides(map, p)) if (steps[q] == NONE) steps[q] = far + 1;
                }
            }
        }
        return steps;
    }

    int near(int from, int to) {
        return cell(from) == NONE || cell(to) == NONE ? BAD : steps(from)[to];
    }

    int easiest(int from, int to, int i) {
        if (cell(from) == NONE || cell(to) == NONE || i < -2) return BAD;
        String way = easyWays(to)[from];
        if (way == null) return NONE;
        if (i == NONE) return way.length();
        if (i >= 0) return i < way.length() ? way.charAt(i) - '0' : NONE;
        int all = 0, p = from;
        for (char c : way.toCharArray()) {
            p = go(p, c - '0');
            all += cell(p);
        }
        return all;
    }

    /** Of each place the best row of letters (as figures), bettered until nothing gets better. */
    private String[] easyWays(int to) {
        boolean[] map = placeMap();
        int[] dense = new int[64];
        for (int p = 0; p < 64; p++) dense[p] = cell(p);
        String[] ways = new String[64];
        int[] sums = new int[64];
        ways[to] = "";
        for (boolean better = true; better;) {
            better = false;
            for (int p = 0; p < 64; p++) {
                for (int d = 0; map[p] && d < 4; d++) {
                    int q = go(p, d);
                    if (q == NONE || !map[q] || ways[q] == null) continue;
                    String way = d + ways[q];
                    int sum = sums[q] + dense[q];
                    boolean less = ways[p] == null || sum < sums[p] || sum == sums[p]
                            && (way.length() < ways[p].length()
                            || way.length() == ways[p].length() && way.compareTo(ways[p]) < 0);
                    if (less) {
                        ways[p] = way;
                        sums[p] = sum;
                        better = true;
                    }
                }
            }
        }
        return ways;
    }

    // ---- orders

    int order(int i) {
        if (!within(i, 0, 4)) return BAD;
        return i < well(1).length() ? well(1).charAt(i) - 'a' : NONE;
    }

    int loose() {
        int all = 0;
        for (int j = 0; j + 1 < well(1).length(); j++) all += 16 - grips[order(j)][order(j + 1)];
        return all;
    }

    int risk() {
        int all = 0;
        List<Integer> path = walked();
        for (int k = 1; k < path.size(); k++) all += cell(path.get(k));
        return all * loose();
    }

    static List<int[]> rows(int bits) {
        List<int[]> all = new ArrayList<>();
        if (bits == 0) all.add(new int[0]);
        for (int k = 0; k < 5; k++) {
            if ((bits >> k & 1) == 0) continue;
            for (int[] rest : rows(bits & ~(1 << k))) {
                int[] row = new int[rest.length + 1];
                row[0] = k;
                System.arraycopy(rest, 0, row, 1, rest.length);
                all.add(row);
            }
        }
        return all;
    }

    int best(int persons, int i) {
        if (!within(persons, 0, 31) || Integer.bitCount(persons) < 2 || !within(i, -1, 4)) return BAD;
        int[] found = null;
        int least = 0;
        for (int[] row : rows(persons)) {
            int all = 0;
            for (int k = 1; k < row.length; k++) all += 16 - grips[row[k - 1]][row[k]];
            if (found == null || all < least) {
                found = row;
                least = all;
            }
        }
        return i == NONE ? least : i < found.length ? found[i] : NONE;
    }

    private static long told(BigInteger above, BigInteger below, int what) {
        BigInteger g = above.gcd(below);
        return (what == 0 ? above : below).divide(g).longValueExact();
    }

    long holds(int joint, int from, int n, int what) {
        if (!within(joint, 0, well(1).length() - 2) || from < 0 || !within(n, 0, 6)
                || (long) from + n > done() || !within(what, 0, 1)) return LONG_BAD;
        BigInteger above = BigInteger.ONE, below = BigInteger.ONE;
        int grip = grips[order(joint)][order(joint + 1)];
        for (int k = from; k < from + n; k++) {
            int d = cell(walked().get(k + 1));
            above = above.multiply(BigInteger.valueOf((16 - d) * 16 + d * grip));
            below = below.multiply(BigInteger.valueOf(256));
        }
        return told(above, below, what);
    }

    long alike(int what) {
        if (!within(what, 0, 1)) return LONG_BAD;
        BigInteger left = BigInteger.ONE, right = BigInteger.ONE, below = BigInteger.ONE;
        for (char c : well(1).toCharArray()) {
            left = left.multiply(BigInteger.valueOf(habits[c - 'a']));
            right = right.multiply(BigInteger.valueOf(16 - habits[c - 'a']));
            below = below.multiply(BigInteger.valueOf(16));
        }
        return well(1).isEmpty() ? 1 : told(left.add(right), below, what);
    }

    // ---- torn, lost

    private int seed;

    private int lot() {
        seed = seed * 1103515245 + 12345;
        return (seed >> 16 & 0xffff) % 16;
    }

    private int[] tear() {
        int[] answers = {NONE, NONE, 0, 0};
        List<Integer> whole = new ArrayList<>();
        String order = well(1);
        for (int j = 0; j + 1 < order.length(); j++) whole.add(j);
        List<Integer> path = walked();
        for (int k = 1; k < path.size(); k++) {
            int d = cell(path.get(k));
            for (int j : new ArrayList<>(whole)) {
                if (lot() >= d) continue;
                if (lot() < grips[order(j)][order(j + 1)]) continue;
                whole.remove((Integer) j);
                if (answers[2]++ == 0) {
                    answers[0] = j;
                    answers[1] = k - 1;
                    for (char c : order.substring(j + 1).toCharArray()) answers[3] |= 1 << c - 'a';
                }
            }
        }
        return answers;
    }

    int torn(int seed, int what) {
        if (!within(what, 0, 3)) return BAD;
        this.seed = seed;
        return tear()[what];
    }

    int fairs(int seed, int n) {
        if (!within(n, 1, 60)) return BAD;
        this.seed = seed;
        int all = 0;
        for (int k = 0; k < n; k++) all += tear()[2];
        return all;
    }

    /** Goes through all that may happen: each end gets the part (of 60 for each minute) that comes there. */
    private void spread(boolean[] map, int[] toClock, int here, int minutes, long part, long[] ends) {
        if (minutes == 0) {
            ends[here] += part;
            return;
        }
        List<Integer> next = new ArrayList<>();
        if (rule == 1) {
            next.add(here);
            next.addAll(besides(map, here));
        } else {
            next.add(rule == 0 ? here : nearer(map, toClock, here));
        }
        for (int q : next) spread(map, toClock, q, minutes - 1, part / next.size(), ends);
    }

    private long[] chances(int from, int minutes) {
        long[] ends = new long[64];
        spread(placeMap(), steps(clock), from, minutes, BigInteger.valueOf(60).pow(minutes).longValue(), ends);
        return ends;
    }

    private int nearer(boolean[] map, int[] toClock, int here) {
        if (toClock[here] <= 0) return here;
        for (int q : besides(map, here)) if (toClock[q] < toClock[here]) return q;
        return here;
    }

    long is(int from, int minutes, int place, int what) {
        if (cell(from) == NONE || !within(minutes, 0, 5) || cell(place) == NONE || !within(what, 0, 1)) {
            return LONG_BAD;
        }
        return told(BigInteger.valueOf(chances(from, minutes)[place]), BigInteger.valueOf(60).pow(minutes), what);
    }

    int likeliest(int from, int minutes) {
        if (cell(from) == NONE || !within(minutes, 0, 5)) return BAD;
        long[] ends = chances(from, minutes);
        int found = 0;
        for (int p = 1; p < 64; p++) {
            if (ends[p] > ends[found]) found = p;
        }
        return found;
    }

    // ---- seeking, meeting

    int look(int place, int weight) {
        if (!within(place, 0, 63) || !within(weight, 1, 9)) return BAD;
        if (looks.size() == 5) return FULL;
        looks.add(new int[] {place, weight});
        return looks.size();
    }

    int forget() {
        int had = looks.size();
        looks.clear();
        return had;
    }

    private boolean cannotSeek(int person) {
        if (looks.isEmpty() || cell(stands[person]) == NONE) return true;
        for (int[] look : looks) {
            if (cell(look[0]) == NONE || near(stands[person], look[0]) == NONE) return true;
        }
        return false;
    }

    private int[][] lookSteps() {
        int[][] all = new int[5][];
        for (int k = 0; k < looks.size(); k++) all[k] = steps(looks.get(k)[0]);
        return all;
    }

    private int sumOf(int[][] lookSteps, int[] fromStand, int[] row) {
        int all = 0, walked = 0;
        int[] steps = fromStand;
        for (int k : row) {
            walked += steps[looks.get(k)[0]];
            all += walked * looks.get(k)[1];
            steps = lookSteps[k];
        }
        return all;
    }

    private int[] bestRow(int[][] lookSteps, int[] fromStand, int bits) {
        int[] found = null;
        for (int[] row : rows(bits)) {
            if (found == null || sumOf(lookSteps, fromStand, row) < sumOf(lookSteps, fromStand, found)) found = row;
        }
        return found;
    }

    private BigInteger allWeight() {
        int all = 0;
        for (int[] look : looks) all += look[1];
        return BigInteger.valueOf(all);
    }

    long seek(int person, int i) {
        if (!within(person, 0, 4) || !within(i, -2, 4)) return LONG_BAD;
        if (cannotSeek(person)) return LONG_NOT;
        int[] from = steps(stands[person]);
        int[] row = bestRow(lookSteps(), from, (1 << looks.size()) - 1);
        if (i >= 0) return i < row.length ? row[i] : NONE;
        return told(BigInteger.valueOf(sumOf(lookSteps(), from, row)), allWeight(), i + 2);
    }

    long parted(int a, int b, int what) {
        if (!within(a, 0, 4) || !within(b, 0, 4) || a == b || !within(what, 0, 2)) return LONG_BAD;
        if (cannotSeek(a) || cannotSeek(b)) return LONG_NOT;
        int all = (1 << looks.size()) - 1, bits = NONE, least = 0;
        int[][] between = lookSteps();
        int[] fromA = steps(stands[a]), fromB = steps(stands[b]);
        for (int t = 0; t <= all; t++) {
            int sum = sumOf(between, fromA, bestRow(between, fromA, t))
                    + sumOf(between, fromB, bestRow(between, fromB, all ^ t));
            if (bits == NONE || sum < least) {
                bits = t;
                least = sum;
            }
        }
        return what == 2 ? bits : told(BigInteger.valueOf(least), allWeight(), what);
    }

    int meet(int persons, int what) {
        if (!within(persons, 1, 31) || !within(what, 0, 1)) return BAD;
        int found = NONE, least = NONE;
        for (int p = 0; p < 64; p++) {
            if (cell(p) == NONE) continue;
            int[] steps = steps(p);
            int most = 0;
            for (int k = 0; k < 5 && most != NONE; k++) {
                if ((persons >> k & 1) == 0) continue;
                most = steps[stands[k]] == NONE ? NONE : Math.max(most, steps[stands[k]]);
            }
            if (most != NONE && (found == NONE || most < least)) {
                found = p;
                least = most;
            }
        }
        return what == 0 ? found : least;
    }

    int counts(int t, int c, int l) {
        if (!within(t, 1, 99) || !within(c, 0, 99) || !within(l, 0, 99)) return BAD;
        int found = 0, least = 0;
        for (int n = 1; n <= 60; n++) {
            int times = t / n + (t % n == 0 ? 0 : 1), cost = c * times + l * (n - 1);
            if (found == 0 || cost < least) {
                found = n;
                least = cost;
            }
        }
        return found;
    }

    // ---- sheets

    private int found(int number) {
        finding = number;
        return -10 - number;
    }

    private static int formOf(Object row) {
        return row instanceof byte[] ? 0 : row instanceof short[] ? 1 : 2;
    }

    private static int sizeOf(Object row) {
        return java.lang.reflect.Array.getLength(row);
    }

    int sheet(int s, int form, int n) {
        if (!within(s, 0, 3) || !within(form, 0, 2) || n > 64) return BAD;
        if (n < 0) return found(5);
        sheets[s] = form == 0 ? new byte[n] : form == 1 ? new short[n] : (Object) new int[n];
        return n;
    }

    int lose(int s) {
        if (!within(s, 0, 3)) return BAD;
        if (sheets[s] == null) return found(1);
        int had = sizeOf(sheets[s]);
        sheets[s] = null;
        return had;
    }

    private static void put(Object row, int i, int v) {
        if (row instanceof byte[]) ((byte[]) row)[i] = (byte) v;
        if (row instanceof short[]) ((short[]) row)[i] = (short) v;
        if (row instanceof int[]) ((int[]) row)[i] = v;
    }

    private int wrong(int s, int form, int i) {
        if (sheets[s] == null) return 1;
        if (formOf(sheets[s]) != form) return 3;
        return within(i, 0, sizeOf(sheets[s]) - 1) ? 0 : 2;
    }

    int lay(int s, int form, int i, int v) {
        if (!within(s, 0, 3) || !within(form, 0, 2)) return BAD;
        if (wrong(s, form, i) != 0) return found(wrong(s, form, i));
        put(sheets[s], i, v);
        return 1;
    }

    int get(int s, int form, int i) {
        if (!within(s, 0, 3) || !within(form, 0, 2)) return Integer.MIN_VALUE;
        if (wrong(s, form, i) != 0) {
            found(wrong(s, form, i));
            return Integer.MIN_VALUE;
        }
        return java.lang.reflect.Array.getInt(sheets[s], i);
    }

    int copy(int s, int i, int t, int j, int n) {
        if (!within(s, 0, 3) || !within(t, 0, 3)) return BAD;
        if (sheets[s] == null || sheets[t] == null) return found(1);
        if (formOf(sheets[s]) != formOf(sheets[t])) return found(4);
        if (i < 0 || j < 0 || n < 0 || (long) i + n > sizeOf(sheets[s]) || (long) j + n > sizeOf(sheets[t])) {
            return found(2);
        }
        int[] were = new int[n];
        for (int k = 0; k < n; k++) were[k] = java.lang.reflect.Array.getInt(sheets[s], i + k);
        for (int k = 0; k < n; k++) put(sheets[t], j + k, were[k]);
        return 1;
    }

    int write(int from, int s) {
        if (cell(from) == NONE || !within(s, 0, 3)) return BAD;
        if (sheets[s] == null) return found(1);
        int[] steps = steps(from);
        for (int p = 0; p < sizeOf(sheets[s]); p++) put(sheets[s], p, steps[p]);
        return sizeOf(sheets[s]);
    }

    int count(int what) {
        int places = 0;
        for (boolean is : placeMap()) places += is ? 1 : 0;
        int[] all = {places, well(1).length(), well(2).length(), done(), texts[0].length(), texts[1].length(),
            texts[2].length(), looks.size(), finding};
        return within(what, 0, 8) ? all[what] : BAD;
    }

    long digest() {
        List<Long> all = new ArrayList<>();
        for (int k = 0; k <= 7; k++) all.add((long) count(k));
        for (int k = 0; k <= 2; k++) all.add((long) fault(k));
        all.addAll(List.of((long) judged(), (long) at(done()), (long) loose(), (long) risk(), alike(0), alike(1)));
        for (int k = 0; k <= 4; k++) all.addAll(List.of((long) order(k), seek(k, -2), seek(k, NONE), seek(k, 0)));
        all.add((long) near(0, 9));
        for (int k = -2; k <= 1; k++) all.add((long) easiest(0, 9, k));
        for (int k = -1; k <= 4; k++) all.add((long) best(31, k));
        all.add(holds(0, 0, 2, 0));
        for (int k = 0; k <= 3; k++) all.add((long) torn(7, k));
        all.add((long) fairs(7, 9));
        all.addAll(List.of(is(0, 3, 1, 0), is(0, 3, 1, 1), (long) likeliest(0, 4)));
        for (int k = 0; k <= 2; k++) all.add(parted(0, 1, k));
        all.addAll(List.of((long) meet(7, 0), (long) meet(7, 1), (long) counts(60, 3, 2)));
        long h = 17;
        for (long v : all) h = 31 * h + v;
        return h;
    }
}
