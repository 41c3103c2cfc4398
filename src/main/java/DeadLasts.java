/**
 * Lasts kept for the dead: who walks where in whose lasts, through a town, in the rain.
 *
 * <p>The words in capitals in the comments (STEP, WEIGHT, WAY, ..) are those of the document. No call
 * throws; a refusal is an answer. All rows are made in the constructor and used again, so that no
 * later call makes an object.
 */
public final class DeadLasts {
    public static final int NONE = -1, BAD = -2, NOT = -3, FULL = -4;

    private static final int TEXTS = 3;
    private static final int LONGEST_TEXT = 55;
    private static final char END = ';';
    private static final String WAY_LETTERS = "nesw";
    private static final int WAYS = 4;

    private static final int MOST_ROWS = 6;
    private static final int MOST_CELLS = 36;
    private static final int MOST_LETTERS = 4;
    /** Lasts, people, rains and things seen all have the same limit. */
    private static final int MOST = 8;
    private static final int PERSON_FIELDS = 5;
    private static final int MOST_SOLES = 5;
    private static final int STEPS = 30;

    private static final int WALL = 1;
    private static final int DANCER = 1, STRANGER = 2;
    private static final int WALKS = 0, COME = 1, DROWNED = 2, LOST = 3;
    /** What one is on an open CELL, a wall, the church, the river. */
    private static final int[] STATES = {WALKS, LOST, COME, DROWNED};

    private static final int SHEETS = 4;
    private static final int FORMS = 3;
    private static final int MOST_ITEMS = 60;
    private static final int NULL = 1, INDEX = 2, CAST = 3, STORE = 4, SIZE = 5;

    private static final int SIXTEENTHS = 16;
    private static final int LAST_STORM_STEP = 9;

    /** 3 to the power of how often a pair is SOLED. */
    private static final int[] THREES = {1, 3, 9, 27, 81, 243};
    /** The highest figure at each place of a PERSON ahead of its OWN way. */
    private static final int[] HIGHEST_FIGURES = {3, 9, 7, 7, 5};
    private static final int[] DIGEST_STEPS = {0, 5, 12, 29};

    private final Text[] texts;
    private final int[] faults;
    private final Town town;
    private final Lasts lasts;
    private final People people;
    private final Rains rains;
    private final Sightings sightings;
    private final Sheet[] sheets;
    private final Trace[] traces;
    private final Trace trial;
    private final Walker walker;
    private final Storm tempest;
    private final Matching matching;
    /** PAIR as it was found last: LEFT, RIGHT, STEP. */
    private final int[] pairRow;
    /** DRY as it was found last. */
    private final int[] dryRow;
    /** The CELLS of one PERSON by each of the eight RIGHT lasts, STEP by STEP. */
    private final int[] tracks;
    private int finding;
    /** Whether texts or rain have changed since the traces were made. */
    private boolean stale;
    /** Whose PAIR is found; NONE: nobody's, as things are now. */
    private int pairPerson;
    /** How many RAINS are in dryRow, NONE if no row does; BAD: not found, as things are now. */
    private int dryNeeded;

    public DeadLasts() {
        texts = new Text[] {new Text(41), new Text(47), new Text(LONGEST_TEXT)};
        faults = new int[] {NONE, NONE, NONE};
        town = new Town();
        lasts = new Lasts();
        people = new People();
        rains = new Rains();
        sightings = new Sightings();
        sheets = new Sheet[SHEETS];
        for (int i = 0; i < SHEETS; i++) {
            sheets[i] = new Sheet();
        }
        traces = new Trace[MOST];
        for (int i = 0; i < MOST; i++) {
            traces[i] = new Trace();
        }
        trial = new Trace();
        walker = new Walker(town, lasts);
        tempest = new Storm(town, lasts);
        matching = new Matching();
        pairRow = new int[] {NONE, NONE, NONE};
        dryRow = new int[] {NONE, NONE};
        tracks = new int[MOST * STEPS];
        finding = 0;
        stale = true;
        pairPerson = NONE;
        dryNeeded = BAD;
    }

    // ---- the town, lasts, people, rain

    public int type(int text, int b) {
        if (!isWithin(text, TEXTS) || !isWithin(b, 256)) {
            return BAD;
        }
        if (!texts[text].append(b)) {
            return FULL;
        }
        reload(text);
        return texts[text].length;
    }

    public int wipe(int text) {
        if (!isWithin(text, TEXTS)) {
            return BAD;
        }
        int had = texts[text].length;
        texts[text].length = 0;
        reload(text);
        return had;
    }

    public int undo(int text) {
        if (!isWithin(text, TEXTS)) {
            return BAD;
        }
        if (texts[text].length == 0) {
            return NOT;
        }
        texts[text].length--;
        reload(text);
        return texts[text].length;
    }

    public int fault(int text) {
        return isWithin(text, TEXTS) ? faults[text] : BAD;
    }

    public int cell(int cell) {
        return isWithin(cell, MOST_CELLS) ? town.kindOf(cell) : BAD;
    }

    public int last(int last, int what) {
        if (!isWithin(last, lasts.size) || !isWithin(what, 2 + MOST_LETTERS)) {
            return BAD;
        }
        return lasts.told(last, what);
    }

    public int person(int person, int what) {
        if (!isWithin(person, people.size) || !isWithin(what, PERSON_FIELDS)) {
            return BAD;
        }
        return people.told(person, what);
    }

    public int rain(int step) {
        if (!isWithin(step, STEPS)) {
            return BAD;
        }
        if (!rains.add(step)) {
            return FULL;
        }
        outdate();
        return rains.size;
    }

    public int back() {
        if (rains.size == 0) {
            return NOT;
        }
        rains.size--;
        outdate();
        return rains.size;
    }

    public int read(int s) {
        if (!isWithin(s, SHEETS)) {
            return BAD;
        }
        Sheet sheet = sheets[s];
        if (sheet.isLost()) {
            return refusal(NULL);
        }
        outdate();
        int taken = 0;
        while (taken < sheet.size && isWithin(sheet.items[taken], STEPS) && rains.add(sheet.items[taken])) {
            taken++;
        }
        return taken;
    }

    // ---- steps

    public int at(int step, int person, int what) {
        if (!isWithin(step, STEPS) || !isWithin(person, people.size) || !isWithin(what, Trace.ROWS)) {
            return BAD;
        }
        retrace();
        return traces[person].told(step, what);
    }

    public int ends(int person, int what) {
        if (!isWithin(person, people.size) || !isWithin(what, 2)) {
            return BAD;
        }
        retrace();
        Trace trace = traces[person];
        return trace.endState == endState(what) ? trace.endStep : NONE;
    }

    public int who(int what) {
        if (!isWithin(what, 2)) {
            return BAD;
        }
        retrace();
        int bits = 0;
        for (int p = 0; p < people.size; p++) {
            if (traces[p].endState == endState(what)) {
                bits |= 1 << p;
            }
        }
        return bits;
    }

    public int met(int what) {
        if (!isWithin(what, 3)) {
            return BAD;
        }
        retrace();
        for (int step = 0; step < STEPS; step++) {
            for (int p = 0; p < people.size; p++) {
                int other = metBy(step, p);
                if (other != NONE) {
                    return what == 0 ? step : what == 1 ? p : other;
                }
            }
        }
        return NONE;
    }

    public int worn(int last) {
        if (!isWithin(last, lasts.size)) {
            return BAD;
        }
        retrace();
        int times = 0;
        for (int p = 0; p < people.size; p++) {
            times += traces[p].timesBy(last);
        }
        return times;
    }

    public int rifest() {
        int rifest = NONE;
        int most = NONE;
        for (int last = 0; last < lasts.size; last++) {
            int times = worn(last);
            if (times > most) {
                most = times;
                rifest = last;
            }
        }
        return rifest;
    }

    // ---- plans

    public int pair(int person, int what) {
        if (!isWithin(person, people.size) || !isWithin(what, 3)) {
            return BAD;
        }
        if (pairPerson != person) {
            findPair(person);
            pairPerson = person;
        }
        return pairRow[what];
    }

    public int soles(int person) {
        if (!isWithin(person, people.size)) {
            return BAD;
        }
        int wet = rains.wetSteps(NONE, NONE);
        for (int soled = 0; soled <= MOST_SOLES; soled++) {
            walker.wear(people, person);
            walker.soled = soled;
            walker.walk(wet, STEPS);
            if (walker.state != DROWNED) {
                return soled;
            }
        }
        return NONE;
    }

    public int match() {
        int wet = rains.wetSteps(NONE, NONE);
        matching.clear();
        for (int p = 0; p < people.size; p++) {
            for (int last = 0; last < lasts.size; last++) {
                walker.wear(people, p);
                walker.left = last;
                walker.right = last;
                walker.walk(wet, STEPS);
                if (walker.state == COME) {
                    matching.allow(p, last);
                }
            }
        }
        return matching.greatest();
    }

    public int dry(int i) {
        if (i != NONE && !isWithin(i, 2)) {
            return BAD;
        }
        if (dryNeeded == BAD) {
            dryNeeded = findDry();
        }
        if (i == NONE) {
            return dryNeeded;
        }
        return i < dryNeeded ? dryRow[i] : NONE;
    }

    // ---- seen, storms, shelves

    public int seen(int step, int person, int cell) {
        if (!isWithin(step, STEPS) || !isWithin(person, MOST) || !isWithin(cell, MOST_CELLS)) {
            return BAD;
        }
        return sightings.add(step, person, cell) ? sightings.size : FULL;
    }

    public int forget() {
        int had = sightings.size;
        sightings.size = 0;
        return had;
    }

    public int never() {
        int bits = 0;
        for (int i = 0; i < rains.size; i++) {
            if (allHoldWithout(i)) {
                bits |= 1 << i;
            }
        }
        return bits;
    }

    public int wore(int person, int what) {
        if (!isWithin(person, people.size) || !isWithin(what, 2)) {
            return BAD;
        }
        retrace();
        return findWore(person, what);
    }

    public int ask(int person) {
        if (!isWithin(person, people.size)) {
            return BAD;
        }
        retrace();
        int bits = findWore(person, 1);
        int best = 0;
        int least = MOST + 1;
        for (int step = 0; step < STEPS; step++) {
            int crowd = greatestCrowd(step, bits);
            if (crowd < least) {
                least = crowd;
                best = step;
            }
        }
        return best;
    }

    public long storm(int c, int last, int person, int what) {
        if (!isWithin(c, SIXTEENTHS + 1) || !isWithin(last, LAST_STORM_STEP + 1)
                || !isWithin(person, people.size) || !isWithin(what, 2)) {
            return Long.MIN_VALUE - BAD;
        }
        long above = tempest.chanceToCome(people, person, c, last);
        long below = 1L << 4 * (last + 1);
        // below is a power of 2, so halving both is all there is to reduce
        for (int i = 0; i < 40 && below > 1 && (above & 1) == 0; i++) {
            above >>= 1;
            below >>= 1;
        }
        return what == 0 ? above : below;
    }

    public int shelves(int seed, int what) {
        if (!isWithin(what, 2)) {
            return BAD;
        }
        int wet = rains.wetSteps(NONE, NONE);
        int lot = seed;
        int many = 0;
        for (int p = 0; p < people.size; p++) {
            walker.wear(people, p);
            if (lasts.size > 0) {
                lot = nextSeed(lot);
                walker.left = (lot >>> 16) % lasts.size;
                lot = nextSeed(lot);
                walker.right = (lot >>> 16) % lasts.size;
            }
            walker.walk(wet, STEPS);
            if (walker.state == endState(what)) {
                many++;
            }
        }
        return many;
    }

    // ---- sheets

    public int sheet(int s, int form, int n) {
        if (!isWithin(s, SHEETS) || !isWithin(form, FORMS) || n > MOST_ITEMS) {
            return BAD;
        }
        if (n < 0) {
            return refusal(SIZE);
        }
        sheets[s].renew(form, n);
        return n;
    }

    public int lose(int s) {
        if (!isWithin(s, SHEETS)) {
            return BAD;
        }
        if (sheets[s].isLost()) {
            return refusal(NULL);
        }
        int had = sheets[s].size;
        sheets[s].size = NONE;
        return had;
    }

    public int lay(int s, int form, int i, int v) {
        if (!isWithin(s, SHEETS) || !isWithin(form, FORMS)) {
            return BAD;
        }
        int number = sheets[s].findingOf(form, i);
        if (number != 0) {
            return refusal(number);
        }
        sheets[s].put(i, v);
        return 1;
    }

    public int get(int s, int form, int i) {
        if (!isWithin(s, SHEETS) || !isWithin(form, FORMS)) {
            return Integer.MIN_VALUE;
        }
        int number = sheets[s].findingOf(form, i);
        if (number != 0) {
            finding = number;
            return Integer.MIN_VALUE;
        }
        return sheets[s].items[i];
    }

    public int copy(int s, int i, int t, int j, int n) {
        if (!isWithin(s, SHEETS) || !isWithin(t, SHEETS)) {
            return BAD;
        }
        Sheet from = sheets[s];
        Sheet to = sheets[t];
        if (from.isLost() || to.isLost()) {
            return refusal(NULL);
        }
        if (from.form != to.form) {
            return refusal(STORE);
        }
        if (!from.hasRange(i, n) || !to.hasRange(j, n)) {
            return refusal(INDEX);
        }
        System.arraycopy(from.items, i, to.items, j, n);
        return 1;
    }

    public int write(int person, int s) {
        if (!isWithin(person, people.size) || !isWithin(s, SHEETS)) {
            return BAD;
        }
        Sheet sheet = sheets[s];
        if (sheet.isLost()) {
            return refusal(NULL);
        }
        retrace();
        int many = Math.min(sheet.size, STEPS);
        for (int step = 0; step < many; step++) {
            sheet.put(step, traces[person].told(step, Trace.CELL));
        }
        return many;
    }

    public int count(int what) {
        switch (what) {
            case 0:
                return town.size;
            case 1:
                return lasts.size;
            case 2:
                return people.size;
            case 3:
            case 4:
            case 5:
                return texts[what - 3].length;
            case 6:
                return rains.size;
            case 7:
                return sightings.size;
            case 8:
                return finding;
            default:
                return BAD;
        }
    }

    public long digest() {
        long h = 17;
        for (int what = 0; what < 8; what++) {
            h = mixed(h, count(what));
        }
        for (int text = 0; text < TEXTS; text++) {
            h = mixed(h, fault(text));
        }
        for (int i = 0; i < town.size; i++) {
            h = mixed(h, cell(i));
        }
        for (int i = 0; i < lasts.size; i++) {
            h = mixedLast(h, i);
        }
        for (int p = 0; p < people.size; p++) {
            h = mixedWalk(h, p);
            h = mixedPlans(h, p);
        }
        h = mixed(mixed(h, who(0)), who(1));
        for (int what = 0; what < 3; what++) {
            h = mixed(h, met(what));
        }
        h = mixed(mixed(h, rifest()), match());
        h = mixed(mixed(h, dry(NONE)), dry(0));
        h = mixed(h, never());
        return mixed(mixed(h, shelves(7, 0)), shelves(7, 1));
    }

    // ---- what the calls share

    private static boolean isWithin(int number, int end) {
        return number >= 0 && number < end;
    }

    private static boolean isBitOf(int bits, int bit) {
        return (bits >> bit & 1) != 0;
    }

    /** Keeps the number of a FINDING and answers what the call answers by it. */
    private int refusal(int number) {
        finding = number;
        return -10 - number;
    }

    /** The state that a call means by what = 0, 1. */
    private static int endState(int what) {
        return what == 0 ? COME : DROWNED;
    }

    private static int nextSeed(int seed) {
        return 1103515245 * seed + 12345;
    }

    private void reload(int text) {
        if (text == 0) {
            faults[0] = town.load(texts[0]);
        } else if (text == 1) {
            faults[1] = lasts.load(texts[1]);
        } else {
            faults[2] = people.load(texts[2]);
        }
        outdate();
    }

    /** What was found and kept no longer holds. */
    private void outdate() {
        stale = true;
        pairPerson = NONE;
        dryNeeded = BAD;
        tempest.person = NONE;
    }

    private void retrace() {
        if (!stale) {
            return;
        }
        int wet = rains.wetSteps(NONE, NONE);
        for (int p = 0; p < people.size; p++) {
            walker.wear(people, p);
            traces[p].follow(walker, wet);
        }
        stale = false;
    }

    /** The least other one that walks on the same CELL as a PERSON behind a STEP; NONE. */
    private int metBy(int step, int person) {
        if (traces[person].told(step, Trace.STATE) != WALKS) {
            return NONE;
        }
        int cell = traces[person].told(step, Trace.CELL);
        for (int q = 0; q < people.size; q++) {
            if (q != person && traces[q].told(step, Trace.STATE) == WALKS
                    && traces[q].told(step, Trace.CELL) == cell) {
                return q;
            }
        }
        return NONE;
    }

    private void findPair(int person) {
        int wet = rains.wetSteps(NONE, NONE);
        pairRow[0] = NONE;
        pairRow[1] = NONE;
        pairRow[2] = NONE;
        int soonest = STEPS;
        for (int left = 0; left < lasts.size; left++) {
            for (int right = 0; right < lasts.size; right++) {
                walker.wear(people, person);
                walker.left = left;
                walker.right = right;
                // one that comes no sooner need not be walked further
                int step = walker.walk(wet, soonest);
                if (walker.state == COME && step < soonest) {
                    soonest = step;
                    pairRow[0] = left;
                    pairRow[1] = right;
                    pairRow[2] = step;
                }
            }
        }
    }

    /** How many RAINS are left out for DRY, and in dryRow which; NONE. */
    private int findDry() {
        if (nobodyDrownsWithout(NONE, NONE)) {
            return 0;
        }
        for (int i = 0; i < rains.size; i++) {
            if (nobodyDrownsWithout(i, NONE)) {
                dryRow[0] = i;
                return 1;
            }
        }
        for (int i = 0; i < rains.size; i++) {
            for (int j = i + 1; j < rains.size; j++) {
                if (nobodyDrownsWithout(i, j)) {
                    dryRow[0] = i;
                    dryRow[1] = j;
                    return 2;
                }
            }
        }
        return NONE;
    }

    private boolean nobodyDrownsWithout(int rain, int other) {
        int wet = rains.wetSteps(rain, other);
        for (int p = 0; p < people.size; p++) {
            walker.wear(people, p);
            walker.walk(wet, STEPS);
            if (walker.state == DROWNED) {
                return false;
            }
        }
        return true;
    }

    private boolean allHoldWithout(int rain) {
        if (sightings.haveNobody(people.size)) {
            return false;
        }
        int wet = rains.wetSteps(rain, NONE);
        for (int p = 0; p < people.size; p++) {
            walker.wear(people, p);
            trial.follow(walker, wet);
            if (!sightings.holdFor(p, trial)) {
                return false;
            }
        }
        return true;
    }

    private boolean othersHold(int person) {
        for (int p = 0; p < people.size; p++) {
            if (p != person && !sightings.holdFor(p, traces[p])) {
                return false;
            }
        }
        return !sightings.haveNobody(people.size);
    }

    /** WORE as bits, for the LEFT (foot 0) or the RIGHT last; tracks has the ways of them all. */
    private int findWore(int person, int foot) {
        if (!othersHold(person)) {
            return 0;
        }
        int wet = rains.wetSteps(NONE, NONE);
        int bits = 0;
        for (int last = 0; last < MOST; last++) {
            walker.wear(people, person);
            if (foot == 0) {
                walker.left = last;
            } else {
                walker.right = last;
            }
            trial.follow(walker, wet);
            for (int step = 0; step < STEPS; step++) {
                tracks[last * STEPS + step] = trial.told(step, Trace.CELL);
            }
            if (sightings.holdFor(person, trial)) {
                bits |= 1 << last;
            }
        }
        return bits;
    }

    /** How many of the lasts of bits, at most, have their tracks on one CELL behind a STEP. */
    private int greatestCrowd(int step, int bits) {
        int greatest = 0;
        for (int last = 0; last < MOST; last++) {
            int cell = tracks[last * STEPS + step];
            int crowd = 0;
            // those ahead of it on the same CELL have been counted with the first of them
            for (int other = last; other < MOST; other++) {
                if (isBitOf(bits, other) && tracks[other * STEPS + step] == cell) {
                    crowd++;
                }
            }
            greatest = Math.max(greatest, crowd);
        }
        return greatest;
    }

    private static long mixed(long h, long value) {
        return 31 * h + value;
    }

    private long mixedLast(long h, int last) {
        long mix = h;
        for (int what = 0; what < 2 + MOST_LETTERS; what++) {
            mix = mixed(mix, last(last, what));
        }
        return mixed(mix, worn(last));
    }

    private long mixedWalk(long h, int person) {
        long mix = h;
        for (int what = 0; what < PERSON_FIELDS; what++) {
            mix = mixed(mix, person(person, what));
        }
        for (int step : DIGEST_STEPS) {
            for (int what = 0; what < Trace.ROWS; what++) {
                mix = mixed(mix, at(step, person, what));
            }
        }
        return mix;
    }

    private long mixedPlans(long h, int person) {
        long mix = mixed(mixed(h, ends(person, 0)), ends(person, 1));
        for (int what = 0; what < 3; what++) {
            mix = mixed(mix, pair(person, what));
        }
        mix = mixed(mix, soles(person));
        mix = mixed(mixed(mix, wore(person, 0)), wore(person, 1));
        mix = mixed(mix, ask(person));
        mix = mixed(mix, storm(5, 5, person, 0));
        return mixed(mix, storm(5, 5, person, 1));
    }

    /** Bytes as they were typed, well or not. */
    private static final class Text {
        private final int[] bytes = new int[LONGEST_TEXT];
        private final int most;
        private int length;

        Text(int most) {
            this.most = Math.min(most, LONGEST_TEXT);
            length = 0;
        }

        boolean append(int b) {
            if (length >= most) {
                return false;
            }
            bytes[length] = b;
            length++;
            return true;
        }

        char signAt(int i) {
            return isWithin(i, length) ? (char) bytes[i] : 0;
        }
    }

    /** ROWS of CELLS. */
    private static final class Town {
        private static final String SIGNS = ".#cr";
        private static final int MOST_COLUMNS = 6;
        private final int[] kinds = new int[MOST_CELLS];
        /** To which CELL one comes from each CELL by each way; made once, for it is asked often. */
        private final int[] nextCells = new int[MOST_CELLS * WAYS];
        private int size;
        private int width;

        /** Takes the CELLS from a text and answers its FAULT; with one there are none. */
        int load(Text text) {
            size = 0;
            width = 0;
            int row = 0;
            int column = 0;
            for (int i = 0; i < text.length; i++) {
                char sign = text.signAt(i);
                if (row == MOST_ROWS || !goesOn(sign, row, column)) {
                    return emptied(i);
                }
                if (sign == END) {
                    row++;
                    column = 0;
                } else {
                    kinds[size] = SIGNS.indexOf(sign);
                    size++;
                    column++;
                    width = row == 0 ? column : width;
                }
            }
            if (text.length > 0 && !isWhole(column)) {
                return emptied(text.length);
            }
            layWays();
            return NONE;
        }

        private boolean goesOn(char sign, int row, int column) {
            if (sign == END) {
                return isWhole(column);
            }
            return SIGNS.indexOf(sign) >= 0 && column < (row == 0 ? MOST_COLUMNS : width)
                    && size < MOST_CELLS;
        }

        /** The first ROW is always as wide as it has come. */
        private boolean isWhole(int column) {
            return column > 0 && column == width;
        }

        private int emptied(int fault) {
            size = 0;
            width = 0;
            return fault;
        }

        private void layWays() {
            int column = 0;
            for (int cell = 0; cell < size; cell++) {
                int at = cell * WAYS;
                nextCells[at] = freeOr(cell, cell - width);
                nextCells[at + 1] = column + 1 < width ? freeOr(cell, cell + 1) : cell;
                nextCells[at + 2] = freeOr(cell, cell + width);
                nextCells[at + 3] = column > 0 ? freeOr(cell, cell - 1) : cell;
                column = column + 1 < width ? column + 1 : 0;
            }
        }

        private int freeOr(int cell, int to) {
            return isWithin(to, size) && kinds[to] != WALL ? to : cell;
        }

        int kindOf(int cell) {
            return isWithin(cell, size) ? kinds[cell] : NONE;
        }

        int nextOf(int cell, int way) {
            return cell < 0 || cell >= size ? cell : nextCells[cell * WAYS + way];
        }

        int stateOn(int cell) {
            return cell < 0 || cell >= size ? LOST : STATES[kinds[cell]];
        }
    }

    /** Lasts: of what kind, and the WAY of each. */
    private static final class Lasts {
        private static final String SIGNS = "pdt";
        private final int[] kinds = new int[MOST];
        private final int[] lengths = new int[MOST];
        private final int[] letters = new int[MOST * MOST_LETTERS];
        private int size;

        /** Takes the lasts from a text and answers its FAULT; with one there are none. */
        int load(Text text) {
            size = 0;
            boolean opens = true;
            for (int i = 0; i < text.length; i++) {
                char sign = text.signAt(i);
                if (opens ? !opensLast(sign) : sign == END ? lengths[size] == 0 : !addLetter(sign)) {
                    return emptied(i);
                }
                opens = sign == END;
                if (opens) {
                    size++;
                }
            }
            if (text.length == 0) {
                return NONE;
            }
            if (opens || lengths[size] == 0) {
                return emptied(text.length);
            }
            size++;
            return NONE;
        }

        private boolean opensLast(char sign) {
            int kind = SIGNS.indexOf(sign);
            if (kind < 0 || size >= MOST) {
                return false;
            }
            kinds[size] = kind;
            lengths[size] = 0;
            return true;
        }

        private boolean addLetter(char sign) {
            int letter = WAY_LETTERS.indexOf(sign);
            if (letter < 0 || lengths[size] >= MOST_LETTERS) {
                return false;
            }
            letters[size * MOST_LETTERS + lengths[size]] = letter;
            lengths[size]++;
            return true;
        }

        private int emptied(int fault) {
            size = 0;
            return fault;
        }

        int told(int last, int what) {
            if (what == 0) {
                return kinds[last];
            }
            if (what == 1) {
                return lengths[last];
            }
            int place = what - 2;
            return place < lengths[last] ? letters[last * MOST_LETTERS + place] : NONE;
        }

        /** The way that a last goes if a foot has gone by it so many times before. */
        int wayOf(int last, int times) {
            int length = lengths[last];
            if (length <= 0) {
                return 0;
            }
            int letter = letters[last * MOST_LETTERS + times % length];
            if (kinds[last] == DANCER && times % 3 == 2) {
                return (letter + 2) % WAYS;
            }
            if (kinds[last] == STRANGER) {
                return (letter + times / length) % WAYS;
            }
            return letter;
        }
    }

    /** People: CELL, LEFT, RIGHT, how often SOLED, OWN way of each. */
    private static final class People {
        private static final int SIGNS_OF_ONE = 6;
        private final int[] fields = new int[MOST * PERSON_FIELDS];
        private int size;

        /** Takes the people from a text and answers its FAULT; with one there are none. */
        int load(Text text) {
            size = 0;
            int period = SIGNS_OF_ONE + 1;
            for (int i = 0; i < text.length; i++) {
                if (!fits(i % period, text.signAt(i))) {
                    return i;
                }
            }
            if (text.length == 0) {
                return NONE;
            }
            if (text.length % period != SIGNS_OF_ONE) {
                return text.length;
            }
            size = Math.min((text.length + 1) / period, MOST);
            for (int p = 0; p < size; p++) {
                take(text, p, p * period);
            }
            return NONE;
        }

        private static boolean fits(int place, char sign) {
            if (place == SIGNS_OF_ONE) {
                return sign == END;
            }
            if (place == SIGNS_OF_ONE - 1) {
                return WAY_LETTERS.indexOf(sign) >= 0;
            }
            return sign >= '0' && sign <= '0' + HIGHEST_FIGURES[place];
        }

        private void take(Text text, int person, int from) {
            int to = person * PERSON_FIELDS;
            fields[to] = (text.signAt(from) - '0') * 10 + text.signAt(from + 1) - '0';
            for (int i = 1; i < PERSON_FIELDS - 1; i++) {
                fields[to + i] = text.signAt(from + 1 + i) - '0';
            }
            fields[to + PERSON_FIELDS - 1] = WAY_LETTERS.indexOf(text.signAt(from + PERSON_FIELDS));
        }

        int told(int person, int what) {
            return fields[person * PERSON_FIELDS + what];
        }
    }

    /** RAIN: in which STEPS, as told one behind the other. */
    private static final class Rains {
        private final int[] steps = new int[MOST];
        private int size;

        boolean add(int step) {
            if (size >= MOST) {
                return false;
            }
            steps[size] = step;
            size++;
            return true;
        }

        /** The STEPS in which it rains, as bits, had two of the RAINS (or NONE) not been. */
        int wetSteps(int without, int other) {
            int bits = 0;
            for (int i = 0; i < size; i++) {
                if (i != without && i != other) {
                    bits |= 1 << steps[i];
                }
            }
            return bits;
        }
    }

    /** One that walks: what it wears, and how it stands between two STEPS. */
    private static final class Walker {
        private final Town town;
        private final Lasts lasts;
        private int start;
        private int left;
        private int right;
        private int soled;
        private int own;
        private int place;
        private int state;
        private int weight;
        private int leftTimes;
        private int rightTimes;
        private int wentBy;

        Walker(Town town, Lasts lasts) {
            this.town = town;
            this.lasts = lasts;
        }

        void wear(People people, int person) {
            start = people.told(person, 0);
            left = people.told(person, 1);
            right = people.told(person, 2);
            soled = people.told(person, 3);
            own = people.told(person, 4);
        }

        void become(Walker other) {
            start = other.start;
            left = other.left;
            right = other.right;
            soled = other.soled;
            own = other.own;
            place = other.place;
            state = other.state;
            weight = other.weight;
            leftTimes = other.leftTimes;
            rightTimes = other.rightTimes;
            wentBy = other.wentBy;
        }

        /** Stands as ahead of STEP 0. */
        void begin() {
            state = town.stateOn(start);
            place = state == LOST ? NONE : start;
            weight = 0;
            leftTimes = 0;
            rightTimes = 0;
            wentBy = NONE;
        }

        void go(int step, boolean rains) {
            wentBy = NONE;
            if (state != WALKS) {
                return;
            }
            int way = own;
            weight = rains ? 0 : weight + (1 << soled);
            if (weight >= THREES[soled]) {
                // the weight goes off even where there is no such last
                weight -= THREES[soled];
                boolean isLeft = step % 2 == 0;
                int last = isLeft ? left : right;
                if (last < lasts.size) {
                    way = lasts.wayOf(last, isLeft ? leftTimes : rightTimes);
                    leftTimes += isLeft ? 1 : 0;
                    rightTimes += isLeft ? 0 : 1;
                    wentBy = last;
                }
            }
            place = town.nextOf(place, way);
            state = town.stateOn(place);
        }

        /**
         * Walks from the beginning as long as it can, but not in the STEP end or behind it: the STEP
         * in which it walked last, NONE if in none.
         */
        int walk(int wet, int end) {
            begin();
            int step = 0;
            while (step < end && state == WALKS) {
                go(step, isBitOf(wet, step));
                step++;
            }
            return step - 1;
        }
    }

    /** Where a PERSON is behind each STEP, and how. */
    private static final class Trace {
        private static final int CELL = 0, STATE = 1, WEIGHT = 2, WENT_BY = 3, ROWS = 4;
        private final int[] rows = new int[ROWS * STEPS];
        private int endState;
        /** The STEP in which it ceased to walk; NONE. */
        private int endStep;

        void follow(Walker walker, int wet) {
            walker.begin();
            endStep = NONE;
            for (int step = 0; step < STEPS; step++) {
                boolean walked = walker.state == WALKS;
                walker.go(step, isBitOf(wet, step));
                if (walked && walker.state != WALKS) {
                    endStep = step;
                }
                rows[CELL * STEPS + step] = walker.place;
                rows[STATE * STEPS + step] = walker.state;
                rows[WEIGHT * STEPS + step] = walker.weight;
                rows[WENT_BY * STEPS + step] = walker.wentBy;
            }
            endState = walker.state;
        }

        int told(int step, int row) {
            return rows[row * STEPS + step];
        }

        int timesBy(int last) {
            int times = 0;
            for (int step = 0; step < STEPS; step++) {
                if (told(step, WENT_BY) == last) {
                    times++;
                }
            }
            return times;
        }
    }

    /** SEEN: behind which STEPS who was on which CELLS. */
    private static final class Sightings {
        private final int[] steps = new int[MOST];
        private final int[] persons = new int[MOST];
        private final int[] cells = new int[MOST];
        private int size;

        boolean add(int step, int person, int cell) {
            if (size >= MOST) {
                return false;
            }
            steps[size] = step;
            persons[size] = person;
            cells[size] = cell;
            size++;
            return true;
        }

        /** Whether one was seen who is not among so many people. */
        boolean haveNobody(int people) {
            for (int i = 0; i < size; i++) {
                if (persons[i] >= people) {
                    return true;
                }
            }
            return false;
        }

        boolean holdFor(int person, Trace trace) {
            for (int i = 0; i < size; i++) {
                if (persons[i] == person && trace.told(steps[i], Trace.CELL) != cells[i]) {
                    return false;
                }
            }
            return true;
        }
    }

    /** Rain by chance: every row of wet and dry STEPS is walked, as far as rows differ. */
    private static final class Storm {
        /** How the one who walks stands ahead of each STEP of the storm, and behind the last one. */
        private final Walker[] stands = new Walker[LAST_STORM_STEP + 2];
        private int wetParts;
        private int steps;
        /** Whose chance is kept, of the parts and steps above; NONE: nobody's. */
        private int person = NONE;
        private long chance;

        Storm(Town town, Lasts lasts) {
            for (int i = 0; i < stands.length; i++) {
                stands[i] = new Walker(town, lasts);
            }
        }

        /** The chance to have COME, in parts of which there are 16 to the power of the steps. */
        long chanceToCome(People people, int asked, int sixteenths, int last) {
            int many = Math.min(last, LAST_STORM_STEP) + 1;
            if (person != asked || wetParts != sixteenths || steps != many) {
                person = asked;
                wetParts = sixteenths;
                steps = many;
                stands[0].wear(people, person);
                stands[0].begin();
                chance = comingFrom(0, 1);
            }
            return chance;
        }

        /** Of so many parts ahead of a STEP: those that come, each worth 16 for each STEP left. */
        private long comingFrom(int step, long parts) {
            Walker stand = stands[step];
            if (parts == 0) {
                return 0;
            }
            if (stand.state != WALKS) {
                return stand.state == COME ? parts << 4 * (steps - step) : 0;
            }
            if (step >= steps) {
                for (int s = step; s < STEPS && stand.state == WALKS; s++) {
                    stand.go(s, false);
                }
                return stand.state == COME ? parts : 0;
            }
            Walker next = stands[step + 1];
            next.become(stand);
            next.go(step, true);
            long coming = comingFrom(step + 1, parts * wetParts);
            next.become(stand);
            next.go(step, false);
            return coming + comingFrom(step + 1, parts * (SIXTEENTHS - wetParts));
        }
    }

    /** Who may have which last, and how many can have one at once. */
    private static final class Matching {
        private final int[] allowed = new int[MOST];
        private final int[] holders = new int[MOST];
        /** The lasts that the search at hand has tried, as bits. */
        private int tried;

        void clear() {
            for (int i = 0; i < MOST; i++) {
                allowed[i] = 0;
                holders[i] = NONE;
            }
        }

        void allow(int person, int last) {
            allowed[person] |= 1 << last;
        }

        int greatest() {
            int many = 0;
            for (int p = 0; p < MOST; p++) {
                tried = 0;
                if (finds(p, 0)) {
                    many++;
                }
            }
            return many;
        }

        /** Finds a last for a PERSON, moving those who hold one; each level tries another last. */
        private boolean finds(int person, int depth) {
            if (depth > MOST) {
                return false;
            }
            for (int last = 0; last < MOST; last++) {
                if (!isBitOf(allowed[person], last) || isBitOf(tried, last)) {
                    continue;
                }
                tried |= 1 << last;
                if (holders[last] == NONE || finds(holders[last], depth + 1)) {
                    holders[last] = person;
                    return true;
                }
            }
            return false;
        }
    }

    /** A row of bytes, shorts or ints, or LOST. */
    private static final class Sheet {
        private final int[] items = new int[MOST_ITEMS];
        private int form;
        /** NONE: it is LOST. */
        private int size = NONE;

        boolean isLost() {
            return size == NONE;
        }

        void renew(int newForm, int newSize) {
            form = newForm;
            size = newSize;
            for (int i = 0; i < MOST_ITEMS; i++) {
                items[i] = 0;
            }
        }

        /** The FINDING if item i is treated as of a FORM; 0: none. */
        int findingOf(int asForm, int i) {
            if (isLost()) {
                return NULL;
            }
            if (asForm != form) {
                return CAST;
            }
            return isWithin(i, size) ? 0 : INDEX;
        }

        boolean hasRange(int from, int many) {
            return from >= 0 && many >= 0 && from <= size - many;
        }

        void put(int i, int v) {
            items[i] = form == 0 ? (byte) v : form == 1 ? (short) v : v;
        }
    }
}
