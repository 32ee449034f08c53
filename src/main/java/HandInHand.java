import java.util.Arrays;

/** A family in a row through a fair: ways, grips, who is lost, who seeks where. */
public final class HandInHand {
    public static final int NONE = -1, BAD = -2, NOT = -3, FULL = -4;

    private static final int PERSONS = 5, CELLS = 64, SIDE = 8, DIRECTIONS = 4, SIXTEEN = 16;
    private static final int TEXTS = 3, FAIR_TEXT = 0, ORDER_TEXT = 1, WAY_TEXT = 2;
    private static final int LONGEST_FAIR = 71, LONGEST_ORDER = 5, LONGEST_WAY = 40;
    private static final int ALL_PERSONS = 31, MOST_LOOKS = 5, MOST_WEIGHT = 9;
    private static final int STAY = 0, WANDER = 1, TO_CLOCK = 2;
    private static final int MOST_PRESSED = 6, MOST_FAIRS = 60, MOST_MINUTES = 5;
    private static final int MOST_STEPS_BETWEEN = 60, MOST_TOLD = 99;
    private static final int SHEETS = 4, FORMS = 3, BYTES = 0, SHORTS = 1, MOST_ITEMS = 64;
    private static final int NULL = 1, INDEX = 2, CAST = 3, STORE = 4, SIZE = 5;
    private static final int LEAST_INT = 1 << 31;
    private static final long LEAST_LONG = 1L << 63;

    private final Text fairText, orderText, wayText;
    private final Fair fair;
    private final Distances distances;
    private final EasyWay easyWay;
    private final Family family;
    private final Walk walk;
    private final Tearing tearing;
    private final Lost lost;
    private final Looks looks;
    private final RowFinder rows;
    private final Sheet[] sheets;
    private final int[] farthest;
    private int clock, rule, finding;

    public HandInHand() {
        fairText = new Text(LONGEST_FAIR);
        orderText = new Text(LONGEST_ORDER);
        wayText = new Text(LONGEST_WAY);
        fair = new Fair();
        distances = new Distances(fair);
        easyWay = new EasyWay(fair);
        family = new Family();
        walk = new Walk();
        tearing = new Tearing();
        lost = new Lost(fair, distances);
        looks = new Looks();
        rows = new RowFinder();
        sheets = new Sheet[SHEETS];
        for (int s = 0; s < SHEETS; s++) {
            sheets[s] = new Sheet();
        }
        farthest = new int[CELLS];
    }

    // ---- fair, order, way

    public int type(int text, int b) {
        Text typed = textOf(text);
        if (typed == null || b < 0 || b > 255) {
            return BAD;
        }
        if (typed.isFull()) {
            return FULL;
        }
        typed.append(b);
        reread(text);
        return typed.size;
    }

    public int wipe(int text) {
        Text wiped = textOf(text);
        if (wiped == null) {
            return BAD;
        }
        int had = wiped.size;
        wiped.size = 0;
        reread(text);
        return had;
    }

    public int undo(int text) {
        Text shortened = textOf(text);
        if (shortened == null) {
            return BAD;
        }
        if (shortened.size <= 0) {
            return NOT;
        }
        shortened.size--;
        reread(text);
        return shortened.size;
    }

    public int fault(int text) {
        Text asked = textOf(text);
        return asked == null ? BAD : asked.faultAt;
    }

    public int set(int what, int v) {
        if (what < 0 || what > 2 || v < 0 || v > (what == 2 ? TO_CLOCK : CELLS - 1)) {
            return BAD;
        }
        int was;
        if (what == 0) {
            was = walk.start;
            walk.start = v;
            walk.retrace(fair);
        } else if (what == 1) {
            was = clock;
            clock = v;
        } else {
            was = rule;
            rule = v;
        }
        return was;
    }

    public int grip(int a, int b, int v) {
        if (!Family.isPerson(a) || !Family.isPerson(b) || a == b || !isSixteenths(v)) {
            return BAD;
        }
        int was = family.gripOf(a, b);
        family.putGrip(a, b, v);
        return was;
    }

    public int person(int person, int what, int v) {
        if (!Family.isPerson(person)) {
            return BAD;
        }
        if (what == 0 && isSixteenths(v)) {
            int was = family.habits[person];
            family.habits[person] = v;
            return was;
        }
        if (what == 1 && Fair.isCell(v)) {
            int was = family.stands[person];
            family.stands[person] = v;
            return was;
        }
        return BAD;
    }

    public int read(int s) {
        Sheet from = sheetOf(s);
        if (from == null) {
            return BAD;
        }
        if (from.isLost()) {
            return found(NULL);
        }
        int known = 0;
        while (known < PERSONS && from.has(known) && isSixteenths(from.itemAt(known))) {
            family.habits[known] = from.itemAt(known);
            known++;
        }
        return known;
    }

    // ---- ways, orders

    public int dense(int place) {
        return fair.isPlace(place) ? fair.densityOf(place) : BAD;
    }

    public int judged() {
        return walk.done < walk.size ? walk.done : NONE;
    }

    public int at(int k) {
        if (k < 0 || k > walk.done) {
            return BAD;
        }
        return fair.isPlace(walk.start) ? walk.placeBehind(k) : NOT;
    }

    public int near(int from, int to) {
        if (!fair.isPlace(from) || !fair.isPlace(to)) {
            return BAD;
        }
        distances.measureFrom(from);
        return distances.stepsTo(to);
    }

    public int easiest(int from, int to, int i) {
        if (!fair.isPlace(from) || !fair.isPlace(to) || i < -2) {
            return BAD;
        }
        easyWay.measureTo(to);
        if (i == -2) {
            return easyWay.densityFrom(from);
        }
        return i == NONE ? easyWay.stepsFrom(from) : easyWay.letterAt(from, i);
    }

    public int order(int i) {
        return Family.isPerson(i) ? family.whoGoes(i) : BAD;
    }

    public int loose() {
        return family.looseness();
    }

    public int risk() {
        int together = 0;
        for (int step = 0; step < walk.done; step++) {
            together += densityOfStep(step);
        }
        return together * family.looseness();
    }

    public int best(int persons, int i) {
        if (persons < 0 || persons > ALL_PERSONS || Integer.bitCount(persons) < 2
                || i < NONE || i >= PERSONS) {
            return BAD;
        }
        rows.layOrders(family);
        rows.solve(persons);
        return i == NONE ? rows.leastFrom(RowFinder.FIRST, persons) : rows.stopAt(persons, i);
    }

    public long holds(int joint, int from, int n, int what) {
        if (joint < 0 || joint >= family.joints() || from < 0 || n < 0 || n > MOST_PRESSED
                || from > walk.done - n || !isPart(what)) {
            return refused(BAD);
        }
        long above = 1, below = 1;
        int looseness = SIXTEEN - family.gripOfJoint(joint);
        for (int k = 0; k < n; k++) {
            above *= SIXTEEN * SIXTEEN - densityOfStep(from + k) * looseness;
            below *= SIXTEEN * SIXTEEN;
        }
        return lowest(above, below, what);
    }

    public long alike(int what) {
        if (!isPart(what)) {
            return refused(BAD);
        }
        if (family.inOrder == 0) {
            return 1;
        }
        long left = 1, right = 1, below = 1;
        for (int i = 0; i < family.inOrder; i++) {
            int habit = family.habitOf(family.whoGoes(i));
            left *= habit;
            right *= SIXTEEN - habit;
            below *= SIXTEEN;
        }
        return lowest(left + right, below, what);
    }

    // ---- torn, lost

    public int torn(int seed, int what) {
        if (what < 0 || what > 3) {
            return BAD;
        }
        tearing.seed = seed;
        goThroughFair();
        if (what == 0) {
            return tearing.firstJoint;
        }
        if (what == 1) {
            return tearing.firstStep;
        }
        return what == 2 ? tearing.howMany : family.behindJoint(tearing.firstJoint);
    }

    public int fairs(int seed, int n) {
        if (n < 1 || n > MOST_FAIRS) {
            return BAD;
        }
        int together = 0;
        tearing.seed = seed;
        for (int k = 0; k < n; k++) {
            goThroughFair();
            together += tearing.howMany;
        }
        return together;
    }

    public long is(int from, int minutes, int place, int what) {
        if (!fair.isPlace(from) || !areMinutes(minutes) || !fair.isPlace(place) || !isPart(what)) {
            return refused(BAD);
        }
        loseFrom(from, minutes);
        return lowest(lost.chanceOf(place), lost.below, what);
    }

    public int likeliest(int from, int minutes) {
        if (!fair.isPlace(from) || !areMinutes(minutes)) {
            return BAD;
        }
        loseFrom(from, minutes);
        return lost.likeliestPlace();
    }

    // ---- seeking, meeting

    public int look(int place, int weight) {
        if (!Fair.isCell(place) || weight < 1 || weight > MOST_WEIGHT) {
            return BAD;
        }
        if (looks.size >= MOST_LOOKS) {
            return FULL;
        }
        looks.append(place, weight);
        return looks.size;
    }

    public int forget() {
        int had = looks.size;
        looks.size = 0;
        return had;
    }

    public long seek(int person, int i) {
        if (!Family.isPerson(person) || i < -2 || i >= MOST_LOOKS) {
            return refused(BAD);
        }
        if (!canSeek(person, person)) {
            return refused(NOT);
        }
        int all = looks.asBits();
        rows.solve(all);
        if (i >= 0) {
            return rows.stopAt(all, i);
        }
        return lowest(rows.leastFrom(RowFinder.FIRST, all), looks.weightOf(all), i + 2);
    }

    public long parted(int a, int b, int what) {
        if (!Family.isPerson(a) || !Family.isPerson(b) || a == b || what < 0 || what > 2) {
            return refused(BAD);
        }
        if (!canSeek(a, b)) {
            return refused(NOT);
        }
        int all = looks.asBits();
        rows.solve(all);
        int taken = rows.bestShare(all);
        return what == 2 ? taken : lowest(rows.leastParted(taken, all), looks.weightOf(all), what);
    }

    public int meet(int persons, int what) {
        if (persons < 1 || persons > ALL_PERSONS || !isPart(what)) {
            return BAD;
        }
        Arrays.fill(farthest, 0);
        for (int person = 0; person < PERSONS; person++) {
            if ((persons >> person & 1) != 0) {
                comeFrom(family.standOf(person));
            }
        }
        int place = leastFar();
        return what == 0 || !Fair.isCell(place) ? place : farthest[place];
    }

    public int counts(int t, int c, int l) {
        if (t < 1 || t > MOST_TOLD || c < 0 || c > MOST_TOLD || l < 0 || l > MOST_TOLD) {
            return BAD;
        }
        int bestN = 1, bestCost = c * t;
        for (int n = 2; n <= MOST_STEPS_BETWEEN; n++) {
            int cost = c * ((t + n - 1) / n) + l * (n - 1);
            if (cost < bestCost) {
                bestN = n;
                bestCost = cost;
            }
        }
        return bestN;
    }

    // ---- sheets

    public int sheet(int s, int form, int n) {
        Sheet made = sheetOf(s);
        if (made == null || !isForm(form) || n > MOST_ITEMS) {
            return BAD;
        }
        if (n < 0) {
            return found(SIZE);
        }
        made.renew(form, n);
        return n;
    }

    public int lose(int s) {
        Sheet given = sheetOf(s);
        if (given == null) {
            return BAD;
        }
        if (given.isLost()) {
            return found(NULL);
        }
        int had = given.size;
        given.giveUp();
        return had;
    }

    public int lay(int s, int form, int i, int v) {
        Sheet to = sheetOf(s);
        if (to == null || !isForm(form)) {
            return BAD;
        }
        int wrong = to.wrongWith(form, i);
        if (wrong != 0) {
            return found(wrong);
        }
        to.putItem(i, v);
        return 1;
    }

    public int get(int s, int form, int i) {
        Sheet from = sheetOf(s);
        if (from == null || !isForm(form)) {
            return LEAST_INT;
        }
        int wrong = from.wrongWith(form, i);
        if (wrong != 0) {
            finding = wrong;
            return LEAST_INT;
        }
        return from.itemAt(i);
    }

    public int copy(int s, int i, int t, int j, int n) {
        Sheet from = sheetOf(s), to = sheetOf(t);
        if (from == null || to == null) {
            return BAD;
        }
        if (from.isLost() || to.isLost()) {
            return found(NULL);
        }
        if (from.form != to.form) {
            return found(STORE);
        }
        if (!from.hasRun(i, n) || !to.hasRun(j, n)) {
            return found(INDEX);
        }
        System.arraycopy(from.items, i, to.items, j, n);
        return 1;
    }

    public int write(int from, int s) {
        Sheet to = sheetOf(s);
        if (!fair.isPlace(from) || to == null) {
            return BAD;
        }
        if (to.isLost()) {
            return found(NULL);
        }
        distances.measureFrom(from);
        for (int place = 0; place < to.size; place++) {
            to.putItem(place, distances.stepsTo(place));
        }
        return to.size;
    }

    public int count(int what) {
        switch (what) {
            case 0: return fair.places;
            case 1: return family.inOrder;
            case 2: return walk.size;
            case 3: return walk.done;
            case 4: return fairText.size;
            case 5: return orderText.size;
            case 6: return wayText.size;
            case 7: return looks.size;
            case 8: return finding;
            default: return BAD;
        }
    }

    public long digest() {
        long h = 17;
        for (int what = 0; what < 8; what++) {
            h = 31 * h + count(what);
        }
        for (int text = 0; text < TEXTS; text++) {
            h = 31 * h + fault(text);
        }
        h = 31 * h + judged();
        h = 31 * h + at(walk.done);
        h = 31 * h + loose();
        h = 31 * h + risk();
        h = 31 * h + alike(0);
        h = 31 * h + alike(1);
        h = withPersons(h);
        h = withWays(h);
        h = withTearing(h);
        return withSeeking(h);
    }

    private long withPersons(long before) {
        long h = before;
        for (int person = 0; person < PERSONS; person++) {
            h = 31 * h + order(person);
            for (int i = -2; i <= 0; i++) {
                h = 31 * h + seek(person, i);
            }
        }
        return h;
    }

    private long withWays(long before) {
        long h = 31 * before + near(0, 9);
        for (int i = -2; i <= 1; i++) {
            h = 31 * h + easiest(0, 9, i);
        }
        for (int i = NONE; i < PERSONS; i++) {
            h = 31 * h + best(ALL_PERSONS, i);
        }
        return 31 * h + holds(0, 0, 2, 0);
    }

    private long withTearing(long before) {
        long h = before;
        for (int what = 0; what <= 3; what++) {
            h = 31 * h + torn(7, what);
        }
        h = 31 * h + fairs(7, 9);
        h = 31 * h + is(0, 3, 1, 0);
        h = 31 * h + is(0, 3, 1, 1);
        return 31 * h + likeliest(0, 4);
    }

    private long withSeeking(long before) {
        long h = before;
        for (int what = 0; what <= 2; what++) {
            h = 31 * h + parted(0, 1, what);
        }
        h = 31 * h + meet(7, 0);
        h = 31 * h + meet(7, 1);
        return 31 * h + counts(60, 3, 2);
    }

    private Text textOf(int text) {
        switch (text) {
            case FAIR_TEXT: return fairText;
            case ORDER_TEXT: return orderText;
            case WAY_TEXT: return wayText;
            default: return null;
        }
    }

    private void reread(int text) {
        if (text == FAIR_TEXT) {
            fairText.faultAt = fair.takeText(fairText);
            walk.retrace(fair);
        } else if (text == ORDER_TEXT) {
            orderText.faultAt = family.takeText(orderText);
        } else {
            wayText.faultAt = walk.takeText(wayText);
            walk.retrace(fair);
        }
    }

    private Sheet sheetOf(int s) {
        return s >= 0 && s < SHEETS ? sheets[s] : null;
    }

    private int found(int number) {
        finding = number;
        return -10 - number;
    }

    private int densityOfStep(int step) {
        return fair.densityOf(walk.placeBehind(step + 1));
    }

    private void goThroughFair() {
        tearing.startWhole();
        for (int step = 0; step < walk.done; step++) {
            tearing.goStep(step, densityOfStep(step), family);
        }
    }

    private void loseFrom(int from, int minutes) {
        lost.startAt(from);
        if (rule == TO_CLOCK) {
            distances.measureFrom(clock);
        }
        for (int k = 0; k < minutes && rule != STAY; k++) {
            if (rule == WANDER) {
                lost.wander();
            } else {
                lost.goNearer();
            }
        }
    }

    /** Both must reach every LOOK, also one who then takes none. */
    private boolean canSeek(int a, int b) {
        if (looks.size == 0) {
            return false;
        }
        rows.layWeights(looks);
        for (int k = 0; k < looks.size; k++) {
            layLegs(k, looks.placeOf(k));
        }
        return layLegs(RowFinder.FIRST, family.standOf(a))
                && layLegs(RowFinder.SECOND, family.standOf(b));
    }

    private boolean layLegs(int stop, int place) {
        boolean reachesAll = true;
        distances.measureFrom(place);
        for (int k = 0; k < looks.size; k++) {
            int steps = distances.stepsTo(looks.placeOf(k));
            rows.putLeg(stop, k, steps);
            reachesAll = reachesAll && steps != NONE;
        }
        return reachesAll;
    }

    private void comeFrom(int stand) {
        distances.measureFrom(stand);
        for (int place = 0; place < CELLS; place++) {
            int steps = distances.stepsTo(place);
            boolean outOfReach = steps == NONE || farthest[place] == NONE;
            farthest[place] = outOfReach ? NONE : Math.max(farthest[place], steps);
        }
    }

    private int leastFar() {
        int chosen = NONE;
        for (int place = 0; place < CELLS; place++) {
            if (farthest[place] != NONE && (chosen == NONE || farthest[place] < farthest[chosen])) {
                chosen = place;
            }
        }
        return chosen;
    }

    private static boolean isSixteenths(int v) {
        return v >= 0 && v <= SIXTEEN;
    }

    private static boolean isPart(int what) {
        return what == 0 || what == 1;
    }

    private static boolean areMinutes(int minutes) {
        return minutes >= 0 && minutes <= MOST_MINUTES;
    }

    private static boolean isForm(int form) {
        return form >= 0 && form < FORMS;
    }

    private static long refused(int refusal) {
        return LEAST_LONG - refusal;
    }

    private static long lowest(long above, long below, int part) {
        long divisor = above, rest = below;
        // Euclid's rests at least halve every second round, so 128 rounds end any two longs.
        for (int round = 0; round < 128 && rest != 0; round++) {
            long next = divisor % rest;
            divisor = rest;
            rest = next;
        }
        long told = part == 0 ? above : below;
        return divisor == 0 ? told : told / divisor;
    }

    /** Its FAULT is found whenever it changes, so that no call meets an old one. */
    private static final class Text {
        final int most;
        final int[] bytes;
        int size, faultAt;

        Text(int most) {
            this.most = most;
            bytes = new int[LONGEST_FAIR];
            size = 0;
            faultAt = NONE;
        }

        boolean isFull() {
            return size >= most || size >= LONGEST_FAIR;
        }

        void append(int b) {
            if (size >= 0 && size < LONGEST_FAIR) {
                bytes[size] = b;
                size++;
            }
        }

        int byteAt(int i) {
            return i >= 0 && i < size && i < LONGEST_FAIR ? bytes[i] : NONE;
        }
    }

    /** Neighbours are linked once for each text, since every way is sought over them. */
    private static final class Fair {
        final int[] densities, neighbours;
        int places;

        Fair() {
            densities = new int[CELLS];
            neighbours = new int[CELLS * DIRECTIONS];
            Arrays.fill(densities, NONE);
            Arrays.fill(neighbours, NONE);
            places = 0;
        }

        static boolean isCell(int place) {
            return place >= 0 && place < CELLS;
        }

        boolean isPlace(int place) {
            return place >= 0 && place < CELLS && densities[place] != NONE;
        }

        int densityOf(int place) {
            return place >= 0 && place < CELLS && densities[place] != NONE ? densities[place] : 0;
        }

        int beside(int place, int direction) {
            int k = place * DIRECTIONS + direction;
            return k >= 0 && k < CELLS * DIRECTIONS ? neighbours[k] : NONE;
        }

        int takeText(Text text) {
            Arrays.fill(densities, NONE);
            Arrays.fill(neighbours, NONE);
            places = 0;
            int fault = layRows(text);
            if (fault == NONE) {
                link();
            } else {
                Arrays.fill(densities, NONE);
            }
            return fault;
        }

        private int layRows(Text text) {
            int row = 0, column = 0, width = SIDE;
            for (int i = 0; i < text.size; i++) {
                int b = text.byteAt(i);
                if (row >= SIDE) {
                    return i;
                }
                if (b == ';') {
                    if (column == 0 || row > 0 && column < width) {
                        return i;
                    }
                    width = column;
                    row++;
                    column = 0;
                } else {
                    boolean figure = b >= '0' && b <= '9';
                    if (column >= width || !figure && b != '#') {
                        return i;
                    }
                    densities[SIDE * row + column] = figure ? b - '0' : NONE;
                    column++;
                }
            }
            return row > 0 && column < width ? text.size : NONE;
        }

        private void link() {
            for (int place = 0; place < CELLS; place++) {
                if (isPlace(place)) {
                    places++;
                    int k = place * DIRECTIONS;
                    neighbours[k] = placeOrNone(place - SIDE);
                    neighbours[k + 1] = place % SIDE == SIDE - 1 ? NONE : placeOrNone(place + 1);
                    neighbours[k + 2] = placeOrNone(place + SIDE);
                    neighbours[k + 3] = place % SIDE == 0 ? NONE : placeOrNone(place - 1);
                }
            }
        }

        private int placeOrNone(int place) {
            return isPlace(place) ? place : NONE;
        }
    }

    /** NEAR from one PLACE to all at once: writing, seeking and meeting ask for many of them. */
    private static final class Distances {
        final Fair fair;
        final int[] steps, reached;

        Distances(Fair fair) {
            this.fair = fair;
            steps = new int[CELLS];
            reached = new int[CELLS];
        }

        void measureFrom(int place) {
            Arrays.fill(steps, NONE);
            if (!fair.isPlace(place)) {
                return;
            }
            steps[place] = 0;
            reached[0] = place;
            int end = 1;
            for (int k = 0; k < end && k < CELLS; k++) {
                int here = reached[k];
                for (int direction = 0; direction < DIRECTIONS; direction++) {
                    int next = fair.beside(here, direction);
                    if (next >= 0 && next < CELLS && steps[next] == NONE && end < CELLS) {
                        steps[next] = steps[here] + 1;
                        reached[end] = next;
                        end++;
                    }
                }
            }
        }

        int stepsTo(int place) {
            return place >= 0 && place < CELLS ? steps[place] : NONE;
        }
    }

    /** Measured back from the goal, so that the least row of letters is found going forward. */
    private static final class EasyWay {
        // A toll is 64 times DENSE and the steps: no easiest way has 64 steps, so one number orders both.
        static final int UNIT = 64, FAR = 1 << 30;

        final Fair fair;
        final int[] tolls;
        long settled;

        EasyWay(Fair fair) {
            this.fair = fair;
            tolls = new int[CELLS];
            settled = 0;
        }

        void measureTo(int goal) {
            Arrays.fill(tolls, FAR);
            settled = 0;
            if (fair.isPlace(goal)) {
                tolls[goal] = 0;
            }
            for (int round = 0; round < CELLS; round++) {
                int here = cheapestOpen();
                if (!Fair.isCell(here)) {
                    return;
                }
                settled |= 1L << here;
                int toll = tolls[here] + tollInto(here);
                for (int direction = 0; direction < DIRECTIONS; direction++) {
                    int next = fair.beside(here, direction);
                    if (Fair.isCell(next) && toll < tolls[next]) {
                        tolls[next] = toll;
                    }
                }
            }
        }

        private int cheapestOpen() {
            int found = NONE, least = FAR;
            for (int place = 0; place < CELLS; place++) {
                if (tolls[place] < least && (settled >>> place & 1L) == 0) {
                    found = place;
                    least = tolls[place];
                }
            }
            return found;
        }

        private int tollInto(int place) {
            return fair.densityOf(place) * UNIT + 1;
        }

        private boolean reaches(int from) {
            return Fair.isCell(from) && tolls[from] < FAR;
        }

        int densityFrom(int from) {
            return reaches(from) ? tolls[from] / UNIT : NONE;
        }

        int stepsFrom(int from) {
            return reaches(from) ? tolls[from] % UNIT : NONE;
        }

        int letterAt(int from, int i) {
            int here = from;
            for (int k = 0; k < CELLS; k++) {
                int letter = firstLetter(here);
                if (letter == NONE || k == i) {
                    return letter;
                }
                here = fair.beside(here, letter);
            }
            return NONE;
        }

        private int firstLetter(int here) {
            if (!reaches(here)) {
                return NONE;
            }
            for (int direction = 0; direction < DIRECTIONS; direction++) {
                int next = fair.beside(here, direction);
                if (reaches(next) && tolls[next] + tollInto(next) == tolls[here]) {
                    return direction;
                }
            }
            return NONE;
        }
    }

    /** PERSONS by number and by their place in ORDER: a GRIP belongs to two, a JOINT to two side by side. */
    private static final class Family {
        final int[] grips, habits, stands, row;
        int inOrder;

        Family() {
            grips = new int[PERSONS * PERSONS];
            habits = new int[PERSONS];
            stands = new int[PERSONS];
            row = new int[PERSONS];
            Arrays.fill(grips, 8);
            Arrays.fill(habits, 8);
            inOrder = 0;
        }

        static boolean isPerson(int person) {
            return person >= 0 && person < PERSONS;
        }

        int gripOf(int a, int b) {
            boolean known = a >= 0 && a < PERSONS && b >= 0 && b < PERSONS;
            return known ? grips[a * PERSONS + b] : 0;
        }

        void putGrip(int a, int b, int v) {
            if (isPerson(a) && isPerson(b)) {
                grips[a * PERSONS + b] = v;
                grips[b * PERSONS + a] = v;
            }
        }

        int habitOf(int person) {
            return isPerson(person) ? habits[person] : 0;
        }

        int standOf(int person) {
            return isPerson(person) ? stands[person] : NONE;
        }

        int takeText(Text text) {
            int taken = 0;
            inOrder = 0;
            for (int i = 0; i < text.size; i++) {
                int person = text.byteAt(i) - 'a';
                if (!isPerson(person) || (taken >> person & 1) != 0 || i >= PERSONS) {
                    return i;
                }
                taken |= 1 << person;
                row[i] = person;
            }
            inOrder = text.size;
            return NONE;
        }

        int whoGoes(int i) {
            return i >= 0 && i < inOrder && i < PERSONS ? row[i] : NONE;
        }

        int joints() {
            return Math.max(inOrder - 1, 0);
        }

        int gripOfJoint(int joint) {
            return gripOf(whoGoes(joint), whoGoes(joint + 1));
        }

        int looseness() {
            int together = 0;
            for (int joint = 0; joint < joints(); joint++) {
                together += SIXTEEN - gripOfJoint(joint);
            }
            return together;
        }

        int behindJoint(int joint) {
            int bits = 0;
            if (joint == NONE) {
                return bits;
            }
            for (int i = joint + 1; i < inOrder; i++) {
                bits |= 1 << whoGoes(i);
            }
            return bits;
        }
    }

    /** Retraced whenever START, THE WAY or the fair changes, so that no call meets an old path. */
    private static final class Walk {
        final int[] letters, path;
        int start, size, done;

        Walk() {
            letters = new int[LONGEST_WAY];
            path = new int[LONGEST_WAY + 1];
            start = 0;
            size = 0;
            done = 0;
        }

        int takeText(Text text) {
            size = 0;
            for (int i = 0; i < text.size; i++) {
                int direction = directionOf(text.byteAt(i));
                if (direction == NONE || i >= LONGEST_WAY) {
                    return i;
                }
                letters[i] = direction;
            }
            size = text.size;
            return NONE;
        }

        private static int directionOf(int b) {
            switch (b) {
                case 'n': return 0;
                case 'e': return 1;
                case 's': return 2;
                case 'w': return 3;
                default: return NONE;
            }
        }

        void retrace(Fair fair) {
            done = 0;
            path[0] = start;
            for (int k = 0; k < size && k < LONGEST_WAY; k++) {
                int next = fair.beside(path[k], letters[k]);
                if (next == NONE) {
                    return;
                }
                path[k + 1] = next;
                done = k + 1;
            }
        }

        int placeBehind(int k) {
            return k >= 0 && k <= done && k <= LONGEST_WAY ? path[k] : NONE;
        }
    }

    /** Keeps its SEED when it starts whole again: fairs one behind the other go on with it. */
    private static final class Tearing {
        int seed, tornBits, firstJoint, firstStep, howMany;

        Tearing() {
            seed = 0;
            startWhole();
        }

        void startWhole() {
            tornBits = 0;
            firstJoint = NONE;
            firstStep = NONE;
            howMany = 0;
        }

        void goStep(int step, int density, Family family) {
            for (int joint = 0; joint < family.joints(); joint++) {
                if ((tornBits >> joint & 1) == 0 && tears(density, family.gripOfJoint(joint))) {
                    tornBits |= 1 << joint;
                    howMany++;
                    if (firstJoint == NONE) {
                        firstJoint = joint;
                        firstStep = step;
                    }
                }
            }
        }

        private boolean tears(int density, int grip) {
            return lotOfSixteen() < density && lotOfSixteen() >= grip;
        }

        private int lotOfSixteen() {
            seed = 1103515245 * seed + 12345;
            return (seed >>> 16) % SIXTEEN;
        }
    }

    /** All chances share one number below, so that they are compared and added as whole numbers. */
    private static final class Lost {
        // One of up to five PLACES a minute: sixty has a whole share for each of these numbers.
        static final long SHARES = 60;

        final Fair fair;
        final Distances toClock;
        final long[] chances, later;
        long below;

        Lost(Fair fair, Distances toClock) {
            this.fair = fair;
            this.toClock = toClock;
            chances = new long[CELLS];
            later = new long[CELLS];
            below = 1;
        }

        void startAt(int place) {
            Arrays.fill(chances, 0L);
            below = 1;
            if (Fair.isCell(place)) {
                chances[place] = 1;
            }
        }

        void wander() {
            Arrays.fill(later, 0L);
            for (int place = 0; place < CELLS; place++) {
                if (chances[place] != 0) {
                    spread(place);
                }
            }
            System.arraycopy(later, 0, chances, 0, CELLS);
            below *= SHARES;
        }

        private void spread(int place) {
            int ways = 1;
            for (int direction = 0; direction < DIRECTIONS; direction++) {
                ways += fair.beside(place, direction) == NONE ? 0 : 1;
            }
            long share = chances[place] * SHARES / ways;
            later[place] += share;
            for (int direction = 0; direction < DIRECTIONS; direction++) {
                int next = fair.beside(place, direction);
                if (Fair.isCell(next)) {
                    later[next] += share;
                }
            }
        }

        void goNearer() {
            int here = likeliestPlace();
            int steps = toClock.stepsTo(here);
            for (int direction = 0; direction < DIRECTIONS; direction++) {
                int next = fair.beside(here, direction);
                if (next != NONE && steps > 0 && toClock.stepsTo(next) < steps) {
                    startAt(next);
                    return;
                }
            }
        }

        long chanceOf(int place) {
            return Fair.isCell(place) ? chances[place] : 0;
        }

        int likeliestPlace() {
            int found = 0;
            for (int place = 1; place < CELLS; place++) {
                if (chances[place] > chances[found]) {
                    found = place;
                }
            }
            return found;
        }
    }

    /** A LOOK may be where no PLACE is: only a search finds out that it is out of reach. */
    private static final class Looks {
        final int[] spots, weights;
        int size;

        Looks() {
            spots = new int[MOST_LOOKS];
            weights = new int[MOST_LOOKS];
            size = 0;
        }

        void append(int place, int weight) {
            if (size >= 0 && size < MOST_LOOKS) {
                spots[size] = place;
                weights[size] = weight;
                size++;
            }
        }

        int placeOf(int k) {
            return k >= 0 && k < size && k < MOST_LOOKS ? spots[k] : NONE;
        }

        int asBits() {
            return (1 << size) - 1;
        }

        int weightOf(int bits) {
            int together = 0;
            for (int k = 0; k < size && k < MOST_LOOKS; k++) {
                together += (bits >> k & 1) * weights[k];
            }
            return together;
        }
    }

    /**
     * The row of up to five stops that costs least. A leg is paid once for each unit of weight
     * that still waits at its far end, so what is least from a stop on needs only the set of
     * stops that are left, not how one came there.
     */
    private static final class RowFinder {
        static final int STOPS = 5, FIRST = 5, SECOND = 6, FROMS = 7, SETS = 32;

        final int[] legs, weights, least;

        RowFinder() {
            legs = new int[FROMS * STOPS];
            weights = new int[SETS];
            least = new int[SETS * FROMS];
        }

        void layOrders(Family family) {
            Arrays.fill(weights, 1);
            for (int b = 0; b < STOPS; b++) {
                for (int a = 0; a < STOPS; a++) {
                    putLeg(a, b, SIXTEEN - family.gripOf(a, b));
                }
                putLeg(FIRST, b, 0);
                putLeg(SECOND, b, 0);
            }
        }

        void layWeights(Looks looks) {
            for (int bits = 0; bits < SETS; bits++) {
                weights[bits] = looks.weightOf(bits);
            }
        }

        void putLeg(int from, int to, int cost) {
            if (from >= 0 && from < FROMS && to >= 0 && to < STOPS) {
                legs[from * STOPS + to] = cost;
            }
        }

        void solve(int all) {
            Arrays.fill(least, 0);
            for (int bits = 1; bits < SETS; bits++) {
                if ((bits & ~all) == 0) {
                    for (int from = 0; from < FROMS; from++) {
                        least[bits * FROMS + from] = costBy(from, bits, cheapestNext(from, bits));
                    }
                }
            }
        }

        int leastFrom(int from, int bits) {
            boolean known = from >= 0 && from < FROMS && bits >= 0 && bits < SETS;
            return known ? least[bits * FROMS + from] : 0;
        }

        private int costBy(int from, int bits, int next) {
            boolean known = from >= 0 && from < FROMS && bits >= 0 && bits < SETS
                    && next >= 0 && next < STOPS;
            return known ? legs[from * STOPS + next] * weights[bits]
                    + leastFrom(next, bits & ~(1 << next)) : 0;
        }

        /** The least stop of those that cost least, so that rows of like cost end in the least row. */
        private int cheapestNext(int from, int bits) {
            int found = NONE, leastCost = 0;
            for (int next = 0; next < STOPS; next++) {
                if ((bits >> next & 1) != 0) {
                    int cost = costBy(from, bits, next);
                    if (found == NONE || cost < leastCost) {
                        found = next;
                        leastCost = cost;
                    }
                }
            }
            return found;
        }

        int stopAt(int all, int i) {
            int from = FIRST, bits = all;
            for (int k = 0; k < STOPS && bits != 0; k++) {
                int next = cheapestNext(from, bits);
                if (next == NONE || k == i) {
                    return next;
                }
                bits &= ~(1 << next);
                from = next;
            }
            return NONE;
        }

        int leastParted(int taken, int all) {
            return leastFrom(FIRST, taken) + leastFrom(SECOND, all & ~taken);
        }

        int bestShare(int all) {
            int found = 0;
            for (int taken = 1; taken < SETS; taken++) {
                boolean possible = (taken & ~all) == 0;
                if (possible && leastParted(taken, all) < leastParted(found, all)) {
                    found = taken;
                }
            }
            return found;
        }
    }

    /** Every FORM is kept in the same ints, cut as it is laid, so that a new row needs no new array. */
    private static final class Sheet {
        final int[] items;
        int form, size;

        Sheet() {
            items = new int[MOST_ITEMS];
            form = NONE;
            size = 0;
        }

        boolean isLost() {
            return form == NONE;
        }

        void renew(int newForm, int n) {
            Arrays.fill(items, 0);
            form = newForm;
            size = Math.min(n, MOST_ITEMS);
        }

        void giveUp() {
            form = NONE;
            size = 0;
        }

        boolean has(int i) {
            return i >= 0 && i < size && i < MOST_ITEMS;
        }

        boolean hasRun(int i, int n) {
            return i >= 0 && n >= 0 && i <= size - n;
        }

        int wrongWith(int askedForm, int i) {
            if (isLost()) {
                return NULL;
            }
            if (form != askedForm) {
                return CAST;
            }
            return has(i) ? 0 : INDEX;
        }

        int itemAt(int i) {
            return has(i) ? items[i] : 0;
        }

        void putItem(int i, int v) {
            if (has(i)) {
                items[i] = form == BYTES ? (byte) v : form == SHORTS ? (short) v : v;
            }
        }
    }
}
