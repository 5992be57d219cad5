import java.util.Arrays;

/** A house of crystals in whole numbers; the document ../shared/DOC.md says what each call answers. */
public final class CrystalHouse {
    public static final int NONE = -1;

    private static final int TURN = 24;
    private static final int PLACES = 13824;
    private static final int MATRICES = 19683;
    private static final int SAME_MATRIX = 16484;
    private static final int SAME = SAME_MATRIX * PLACES;

    private static final int MOST_TOLD = 40;
    private static final int MOST_GROUPS = 60;
    private static final int MOST_IN_GROUP = 192;
    private static final int MOST_CELLS = 40;
    private static final int MOST_MODELS = 20;
    private static final int MOST_PHASES = 40;
    private static final int MOST_ATOMS = 30;
    private static final int MOST_PLACED = 300;
    private static final int MOST_TIMES = 12;
    private static final int MOST_WITHIN = 6;
    private static final int MOST_WAVE = 60;
    private static final int MOST_WEIGHT = 99;
    private static final int MOST_SQUARE = 10000;
    private static final int MOST_PART = 99;
    private static final long MOST_ENERGY = 100000000L;

    // Each maker of a group at least doubles it, so eight of them are already beyond 192.
    private static final int MOST_MAKERS = 8;

    // So many are three numbers, each -1, 0 or 1; the middle one of them is 0 0 0.
    private static final int AROUND = 27;

    // SHIFTS by which CENTRINGS have their LETTERS.
    private static final int CENTRED_A = 300;
    private static final int CENTRED_B = 6924;
    private static final int CENTRED_C = 7200;
    private static final int CENTRED_I = 7212;
    private static final int OBVERSE = 5008;
    private static final int REVERSE = 5000;

    // Of each CLASS, how many matrices of the SORTS 2, 3, 4, 6, -1, -2, -3, -4, -6 there are, a digit each.
    private static final int[] CLASS_KEYS = {
        0, 10000, 100000000, 1000, 100011000, 300000000, 100002000, 300013000,
        102000000, 100000020, 102011020, 502000000, 102004000, 300002020, 502015020,
        20000000, 20010200, 320000000, 20003000, 320013200,
        120200000, 20001002, 120211202, 720200000, 120206000, 320004002, 720217202,
        380000000, 380013800, 986000000, 380006060, 986019860
    };

    // Four times the cosine of each 24th of a turn, as an EXACT number.
    private static final int[] COSINES = {
        4, 0, 0, 0, 0, 1, 0, 1, 0, 0, 2, 0, 0, 2, 0, 0, 2, 0, 0, 0, 0, -1, 0, 1,
        0, 0, 0, 0, 0, 1, 0, -1, -2, 0, 0, 0, 0, -2, 0, 0, 0, 0, -2, 0, 0, -1, 0, -1,
        -4, 0, 0, 0, 0, -1, 0, -1, 0, 0, -2, 0, 0, -2, 0, 0, -2, 0, 0, 0, 0, 1, 0, -1,
        0, 0, 0, 0, 0, -1, 0, 1, 2, 0, 0, 0, 0, 2, 0, 0, 0, 0, 2, 0, 0, 1, 0, 1
    };

    // How many lattices lie in one as its n-th part: no cell has more MULTIPLES by n.
    private static final int[] LATTICES = {0, 1, 7, 13, 35, 31, 91, 57, 155, 130, 217, 133, 455};

    private final Scribe scribe = new Scribe();
    private final int[] toldCodes = new int[MOST_TOLD];
    private final boolean[] chosen = new boolean[MOST_TOLD];
    private int toldCount = 0;

    private final Closure closure = new Closure();
    private final Group[] groups = new Group[MOST_GROUPS];
    private int groupCount = 0;

    private final Motion left = new Motion();
    private final Motion right = new Motion();
    private final Motion done = new Motion();
    private final Row gathered = new Row(2 * MOST_IN_GROUP);
    private final int[] marks = new int[MOST_IN_GROUP];
    private final int[] queue = new int[MOST_IN_GROUP];

    private final Cell[] cells = new Cell[MOST_CELLS];
    private int cellCount = 0;
    private final Model[] models = new Model[MOST_MODELS];
    private int modelCount = 0;
    private final Wave waves = new Wave();
    private final Phases phases = new Phases();

    public CrystalHouse() {
    }

    // ---- operations ----

    public void feed(int a, int b, int c, int d, int e) {
        scribe.lay(0, a);
        scribe.lay(4, b);
        scribe.lay(8, c);
        scribe.lay(12, d);
        scribe.lay(16, e);
    }

    public int end(int n) {
        return scribe.append(n);
    }

    public int read() {
        int code = scribe.parse();
        if (code == NONE) {
            return NONE;
        }
        if (toldCount >= MOST_TOLD) {
            scribe.report(5, NONE);
            return NONE;
        }
        return keepOperation(code);
    }

    public int fault(int what) {
        if (what == 0) {
            return scribe.flaw;
        }
        return what == 1 ? scribe.flawPlace : NONE;
    }

    public int operation(int nine, int shift) {
        if (nine < 0 || nine >= MATRICES || shift < 0 || shift >= PLACES || toldCount >= MOST_TOLD) {
            return NONE;
        }
        int code = nine * PLACES + shift;
        done.open(code);
        return Math.abs(done.determinant()) == 1 ? keepOperation(code) : NONE;
    }

    private int keepOperation(int code) {
        int number = toldCount;
        if (number >= MOST_TOLD) {
            return NONE;
        }
        toldCodes[number] = code;
        chosen[number] = false;
        toldCount++;
        return number;
    }

    public int tell(int operation) {
        if (operation < 0 || operation >= toldCount) {
            return NONE;
        }
        done.open(toldCodes[operation]);
        return scribe.write(done);
    }

    public int tellOf(int group, int k) {
        Group g = groupAt(group);
        if (g == null || k < 0 || k >= g.ops.count) {
            return NONE;
        }
        done.open(g.ops.at[k]);
        return scribe.write(done);
    }

    public int letter(int i) {
        if (i < 0 || i >= scribe.outCount) {
            return NONE;
        }
        return scribe.out[i];
    }

    // ---- groups ----

    public boolean choose(int operation) {
        if (operation < 0 || operation >= toldCount) {
            return false;
        }
        chosen[operation] = !chosen[operation];
        return true;
    }

    public int group() {
        boolean closed = true;
        closure.begin();
        for (int i = 0; i < toldCount; i++) {
            if (chosen[i]) {
                closed = closed && closure.take(toldCodes[i]);
                chosen[i] = false;
            }
        }
        return closed ? keepGroup() : NONE;
    }

    /** The number of the group that stands in the closure, which is an old one if it is equal to it. */
    private int keepGroup() {
        for (int i = 0; i < groupCount; i++) {
            Group old = groups[i];
            if (old != null && old.ops.sameAs(closure.ops)) {
                return i;
            }
        }
        if (groupCount >= MOST_GROUPS) {
            return NONE;
        }
        int number = groupCount;
        groups[number] = new Group(closure);
        groupCount++;
        return number;
    }

    private Group groupAt(int number) {
        return number < 0 || number >= groupCount ? null : groups[number];
    }

    public int about(int group, int what) {
        Group g = groupAt(group);
        if (g == null) {
            return NONE;
        }
        switch (what) {
            case 0:
                return g.ops.count;
            case 1:
                return g.countMatrices();
            case 2:
                return g.countCentrings();
            case 3:
                return g.centringLetter();
            case 4:
                return classOf(g);
            case 5:
                return countAlike(g);
            case 6:
                return countHalves(g);
            default:
                return NONE;
        }
    }

    private int classOf(Group g) {
        int key = 0;
        for (int i = 0; i < g.ops.count; i++) {
            if (g.bringsMatrix(i)) {
                done.open(g.ops.at[i]);
                key += keyOfSort(done.sort());
            }
        }
        return classOfKey(key);
    }

    /** The digit of CLASS_KEYS in which a matrix of this SORT counts. */
    private static int keyOfSort(int sort) {
        switch (sort) {
            case 2:
                return 100000000;
            case 3:
                return 10000000;
            case 4:
                return 1000000;
            case 6:
                return 100000;
            case -1:
                return 10000;
            case -2:
                return 1000;
            case -3:
                return 100;
            case -4:
                return 10;
            case -6:
                return 1;
            default:
                return 0;
        }
    }

    private static int classOfKey(int key) {
        for (int i = 0; i < CLASS_KEYS.length; i++) {
            if (CLASS_KEYS[i] == key) {
                return i + 1;
            }
        }
        return NONE;
    }

    /** The PRODUCT of two operations; NONE if it is no operation. */
    private int joined(int p, int q) {
        left.open(p);
        right.open(q);
        done.join(left, right);
        return done.code();
    }

    private int countAlike(Group g) {
        if (g.alike == NONE) {
            Arrays.fill(marks, 0);
            int[] inverses = inversesOf(g.makers);
            int sets = 0;
            for (int i = 0; i < g.ops.count; i++) {
                if (marks[i] == 0) {
                    markAlike(g, inverses, i);
                    sets++;
                }
            }
            g.alike = sets;
        }
        return g.alike;
    }

    /** Marks all that are ALIKE with one: the makers, one after another, lead to every one of them. */
    private void markAlike(Group g, int[] inverses, int first) {
        int held = 1;
        marks[first] = 1;
        queue[0] = first;
        for (int i = 0; i < held && i < MOST_IN_GROUP; i++) {
            for (int k = 0; k < g.makers.length && k < inverses.length; k++) {
                int code = joined(joined(g.makers[k], g.ops.at[queue[i]]), inverses[k]);
                int other = g.ops.find(code);
                if (other != NONE && marks[other] == 0 && held < MOST_IN_GROUP) {
                    marks[other] = 1;
                    queue[held] = other;
                    held++;
                }
            }
        }
    }

    private int[] inversesOf(int[] makers) {
        int[] inverses = new int[makers.length];
        for (int i = 0; i < makers.length; i++) {
            inverses[i] = inverseOf(makers[i]);
        }
        return inverses;
    }

    /** The last power of an operation ahead of the one that leaves all. */
    private int inverseOf(int code) {
        int last = SAME;
        int now = code;
        for (int i = 0; i < MOST_IN_GROUP && now != SAME; i++) {
            last = now;
            now = joined(now, code);
        }
        return last;
    }

    private int timesUntilSame(int code) {
        int now = code;
        int times = 1;
        while (times < MOST_IN_GROUP && now != SAME) {
            now = joined(now, code);
            times++;
        }
        return times;
    }

    private int countHalves(Group g) {
        sidesOf(g);
        return (1 << g.sideBits) - 1;
    }

    /**
     * Every half holds all squares, and what the squares make. Beyond these, the first operation that is not
     * bound by those ahead of it may be in a half or not: it gets a bit, the earlier the higher, and sides tells
     * of which of such operations each one is a product. So the halves are in their order by the sets of bits
     * that they leave out.
     */
    private int[] sidesOf(Group g) {
        if (g.sides != null) {
            return g.sides;
        }
        int[] sides = new int[g.ops.count];
        Arrays.fill(sides, NONE);
        int held = beginWithSquares(g, sides);
        int bits = 0;
        for (int i = 0; i < g.ops.count; i++) {
            if (sides[i] == NONE) {
                held = spread(g, sides, i, held);
                bits++;
            }
        }
        g.sides = sides;
        g.sideBits = bits;
        return sides;
    }

    /** Queues all that the squares make: how many. */
    private int beginWithSquares(Group g, int[] sides) {
        closure.begin();
        for (int i = 0; i < g.ops.count; i++) {
            closure.take(joined(g.ops.at[i], g.ops.at[i]));
        }
        int held = 0;
        for (int i = 0; i < closure.ops.count; i++) {
            int seat = g.ops.find(closure.ops.at[i]);
            if (seat != NONE) {
                sides[seat] = 0;
                queue[held] = seat;
                held++;
            }
        }
        return held;
    }

    /** Queues the products of an operation with all that are queued, which get a bit more: how many there are then. */
    private int spread(Group g, int[] sides, int by, int held) {
        int now = held;
        for (int i = 0; i < held; i++) {
            int from = queue[i];
            sides[from] = 2 * sides[from];
            int seat = g.ops.find(joined(g.ops.at[by], g.ops.at[from]));
            if (seat != NONE && sides[seat] == NONE && now < MOST_IN_GROUP) {
                sides[seat] = sides[from] + 1;
                queue[now] = seat;
                now++;
            }
        }
        return now;
    }

    public int of(int group, int k, int what) {
        Group g = groupAt(group);
        if (g == null || k < 0 || k >= g.ops.count) {
            return NONE;
        }
        int code = g.ops.at[k];
        switch (what) {
            case 0:
                return code / PLACES;
            case 1:
                return code % PLACES;
            case 2:
                done.open(code);
                return done.sort();
            case 3:
                return timesUntilSame(code);
            default:
                return NONE;
        }
    }

    public int product(int group, int i, int j) {
        Group g = groupAt(group);
        if (g == null || i < 0 || i >= g.ops.count || j < 0 || j >= g.ops.count) {
            return NONE;
        }
        return g.ops.find(joined(g.ops.at[i], g.ops.at[j]));
    }

    public int half(int group, int k) {
        Group g = groupAt(group);
        if (g == null || k < 0 || k >= countHalves(g)) {
            return NONE;
        }
        int leftOut = k + 1;
        int[] sides = sidesOf(g);
        closure.begin();
        for (int i = 0; i < g.ops.count && i < sides.length; i++) {
            if (Integer.bitCount(sides[i] & leftOut) % 2 == 0) {
                closure.take(g.ops.at[i]);
            }
        }
        return keepGroup();
    }

    public boolean within(int group, int other) {
        Group g = groupAt(group);
        Group wide = groupAt(other);
        if (g == null || wide == null) {
            return false;
        }
        for (int i = 0; i < g.ops.count; i++) {
            if (wide.ops.find(g.ops.at[i]) == NONE) {
                return false;
            }
        }
        return true;
    }

    public int orbit(int group, int place, int what) {
        Group g = groupAt(group);
        if (g == null || place < 0 || place >= PLACES) {
            return NONE;
        }
        if (what == -2 || what == -3) {
            return keepersOf(g, place, what == -3);
        }
        gatherOrbit(g, place);
        if (what == -1) {
            return gathered.count;
        }
        return what < 0 || what >= gathered.count ? NONE : gathered.at[what];
    }

    private void gatherOrbit(Group g, int place) {
        gathered.clear();
        for (int i = 0; i < g.ops.count; i++) {
            done.open(g.ops.at[i]);
            gathered.put(done.move(place));
        }
    }

    /** How many KEEPERS a place has, or its SITE. No two keepers have one matrix. */
    private int keepersOf(Group g, int place, boolean site) {
        int count = 0;
        int key = 0;
        for (int i = 0; i < g.ops.count; i++) {
            done.open(g.ops.at[i]);
            if (done.move(place) == place) {
                count++;
                key += keyOfSort(done.sort());
            }
        }
        return site ? classOfKey(key) : count;
    }

    // ---- waves ----

    private static boolean isWave(int h, int k, int l) {
        return h >= -MOST_WAVE && h <= MOST_WAVE && k >= -MOST_WAVE && k <= MOST_WAVE
            && l >= -MOST_WAVE && l <= MOST_WAVE;
    }

    /** One number for three, each from -180 to 180: the negated three have the negated one. */
    private static int waveCode(int h, int k, int l) {
        return (h * 361 + k) * 361 + l;
    }

    public int wave(int group, int h, int k, int l, int what) {
        Group g = groupAt(group);
        if (g == null || what < 0 || what > 2 || !isWave(h, k, l)) {
            return NONE;
        }
        int own = waveCode(h, k, l);
        int absent = 0;
        int fixed = NONE;
        gathered.clear();
        for (int i = 0; i < g.ops.count; i++) {
            done.open(g.ops.at[i]);
            int to = waveCode(done.column(0, h, k, l), done.column(1, h, k, l), done.column(2, h, k, l));
            int turn = done.turn(h, k, l);
            if (to == own && turn != 0) {
                absent = 1;
            }
            if (to == -own && fixed == NONE) {
                fixed = turn;
            }
            gathered.put(to);
            gathered.put(-to);
        }
        if (what == 0) {
            return absent;
        }
        return what == 1 ? gathered.count : fixed;
    }

    // ---- cells ----

    public int cell(int a, int b, int c, int d, int e, int f) {
        if (cellCount >= MOST_CELLS || !isSquare(a) || !isSquare(b) || !isSquare(c)
            || !isMixed(d) || !isMixed(e) || !isMixed(f)) {
            return NONE;
        }
        if (a * b - f * f <= 0 || Form.determinantOf(a, b, c, d, e, f) <= 0) {
            return NONE;
        }
        Cell made = new Cell();
        made.told.set(a, b, c, 2 * d, 2 * e, 2 * f);
        made.low.copy(made.told);
        made.low.reduce();
        int number = cellCount;
        cells[number] = made;
        cellCount++;
        return number;
    }

    private static boolean isSquare(int n) {
        return n >= 1 && n <= MOST_SQUARE;
    }

    private static boolean isMixed(int n) {
        return n >= -MOST_SQUARE && n <= MOST_SQUARE;
    }

    private Cell cellAt(int number) {
        return number < 0 || number >= cellCount ? null : cells[number];
    }

    public long reduced(int cell, int what) {
        Cell at = cellAt(cell);
        if (at == null || what < 0 || what > 7) {
            return 0;
        }
        if (what == 6) {
            return at.countKeeping();
        }
        return what == 7 ? at.told.determinant() : at.low.number(what);
    }

    public boolean fits(int group, int cell) {
        Group g = groupAt(group);
        Cell at = cellAt(cell);
        return g != null && at != null && keptBy(g, at);
    }

    /** If the makers keep the six numbers, so do all that they make. */
    private boolean keptBy(Group g, Cell at) {
        for (int i = 0; i < g.makers.length; i++) {
            done.open(g.makers[i]);
            if (!at.told.keptBy(done.m)) {
                return false;
            }
        }
        return true;
    }

    public int multiples(int cell, int n) {
        Cell at = cellAt(cell);
        return at == null || n < 1 || n > MOST_TIMES ? NONE : at.countMultiples(n);
    }

    public long multiple(int cell, int n, int k, int what) {
        Cell at = cellAt(cell);
        if (at == null || n < 1 || n > MOST_TIMES || what < 0 || what > 5) {
            return 0;
        }
        if (k < 0 || k >= at.countMultiples(n)) {
            return 0;
        }
        long[] row = at.rows[n];
        return row == null ? 0 : row[6 * k + what];
    }

    // ---- models ----

    public int model(int group, int cell) {
        Group g = groupAt(group);
        Cell at = cellAt(cell);
        if (modelCount >= MOST_MODELS || g == null || at == null || !keptBy(g, at)) {
            return NONE;
        }
        int number = modelCount;
        models[number] = new Model(g, at.told);
        modelCount++;
        return number;
    }

    private Model modelAt(int number) {
        return number < 0 || number >= modelCount ? null : models[number];
    }

    public int atom(int model, int weight, int place) {
        Model at = modelAt(model);
        if (at == null || weight == 0 || weight < -MOST_WEIGHT || weight > MOST_WEIGHT
            || place < 0 || place >= PLACES) {
            return NONE;
        }
        gatherOrbit(at.symmetry, place);
        return at.settle(weight, gathered) ? at.count : NONE;
    }

    public int placed(int model, int i, int what) {
        Model at = modelAt(model);
        if (at == null || !at.holds(i)) {
            return NONE;
        }
        switch (what) {
            case 0:
                return at.placeOf(i);
            case 1:
                return at.weightOf(i);
            case 2:
                return at.owners[i];
            default:
                return NONE;
        }
    }

    public long amplitude(int model, int h, int k, int l, int what) {
        Model at = modelAt(model);
        if (at == null || what < 0 || what > 11 || !isWave(h, k, l)) {
            return 0;
        }
        waves.sum(at, h, k, l);
        if (what < 4) {
            return waves.cosines[what];
        }
        return what < 8 ? waves.sines[what - 4] : waves.power[what - 8];
    }

    public long distance(int model, int i, int j) {
        Model at = modelAt(model);
        return at == null || !at.holds(i) || !at.holds(j) ? 0 : at.leastBetween(i, j);
    }

    public int near(int model, int i, long r) {
        Model at = modelAt(model);
        return at == null || !at.holds(i) ? NONE : at.countAround(i, r);
    }

    public int lines(int model, int m) {
        Lines at = linesAt(model, m);
        return at == null ? NONE : at.count;
    }

    public long line(int model, int m, int k, int what) {
        Lines at = linesAt(model, m);
        if (at == null || k < 0 || k >= at.count || what < 0 || what > 5) {
            return 0;
        }
        return at.rows[6 * at.order[k] + what];
    }

    private Lines linesAt(int model, int m) {
        Model at = modelAt(model);
        if (at == null || m < 1 || m > MOST_WITHIN) {
            return null;
        }
        Lines within = at.spectra[m];
        if (within == null) {
            within = new Lines(m);
            at.spectra[m] = within;
        }
        within.renew(at, waves);
        return within;
    }

    public long map(int model, int place) {
        Model at = modelAt(model);
        return at == null || place < 0 || place >= PLACES ? 0 : at.sumOfPairs(place);
    }

    // ---- phases ----

    public int phase(int p, int q, long energy) {
        return phases.keep(p, q, energy);
    }

    public long above(int phase, int what) {
        if (what == 2) {
            return phases.countStable();
        }
        if (phase < 0 || phase >= phases.count || what < 0 || what > 1) {
            return 0;
        }
        phases.weigh(phase);
        return what == 0 ? phases.upper : phases.lower;
    }

    /** Of numbers from 0 on, not both 0. */
    private static long commonDivisor(long a, long b) {
        long high = a;
        long low = b;
        for (int i = 0; i < 100 && low != 0; i++) {
            long rest = high % low;
            high = low;
            low = rest;
        }
        return Math.max(high, 1);
    }

    /** Different numbers, the lowest first. */
    private static final class Row {
        final int[] at;
        int count = 0;

        Row(int most) {
            at = new int[Math.max(most, 0)];
        }

        void clear() {
            count = 0;
        }

        /** How many are lower than a number. */
        int seat(int number) {
            int low = 0;
            int high = count;
            for (int i = 0; i < 32 && low < high; i++) {
                int middle = (low + high) >>> 1;
                if (at[middle] < number) {
                    low = middle + 1;
                } else {
                    high = middle;
                }
            }
            return low;
        }

        int find(int number) {
            int seat = seat(number);
            return seat < count && at[seat] == number ? seat : NONE;
        }

        /** False if it is neither here nor has room. */
        boolean put(int number) {
            int seat = seat(number);
            if (seat < count && at[seat] == number) {
                return true;
            }
            if (count >= at.length) {
                return false;
            }
            System.arraycopy(at, seat, at, seat + 1, count - seat);
            at[seat] = number;
            count++;
            return true;
        }

        void copy(Row other) {
            count = Math.min(other.count, at.length);
            System.arraycopy(other.at, 0, at, 0, count);
        }

        boolean sameAs(Row other) {
            if (count != other.count) {
                return false;
            }
            for (int i = 0; i < count; i++) {
                if (at[i] != other.at[i]) {
                    return false;
                }
            }
            return true;
        }
    }

    /** An operation, opened to its numbers. Its code, of matrix and then shift, is in ORDER as a number. */
    private static final class Motion {
        final int[] m = new int[9];
        final int[] s = new int[3];

        void clear() {
            Arrays.fill(m, 0);
            Arrays.fill(s, 0);
        }

        void open(int code) {
            int nine = code / PLACES;
            int shift = code % PLACES;
            for (int i = 8; i >= 0; i--) {
                m[i] = nine % 3 - 1;
                nine /= 3;
            }
            for (int i = 2; i >= 0; i--) {
                s[i] = shift % TURN;
                shift /= TURN;
            }
        }

        boolean isSmall() {
            for (int i = 0; i < 9; i++) {
                if (m[i] < -1 || m[i] > 1) {
                    return false;
                }
            }
            return true;
        }

        /** NONE if the matrix has other numbers than -1, 0 and 1. */
        int code() {
            if (!isSmall()) {
                return NONE;
            }
            int code = 0;
            for (int i = 0; i < 9; i++) {
                code = code * 3 + m[i] + 1;
            }
            for (int i = 0; i < 3; i++) {
                code = code * TURN + s[i];
            }
            return code;
        }

        int determinant() {
            return m[0] * (m[4] * m[8] - m[5] * m[7])
                - m[1] * (m[3] * m[8] - m[5] * m[6])
                + m[2] * (m[3] * m[7] - m[4] * m[6]);
        }

        int sort() {
            int det = determinant();
            switch (det * (m[0] + m[4] + m[8])) {
                case 3:
                    return det;
                case -1:
                    return 2 * det;
                case 0:
                    return 3 * det;
                case 1:
                    return 4 * det;
                case 2:
                    return 6 * det;
                default:
                    return 0;
            }
        }

        /** Becomes the PRODUCT of two others. */
        void join(Motion p, Motion q) {
            for (int row = 0; row < 9; row += 3) {
                int sum = p.s[row / 3];
                for (int k = 0; k < 3; k++) {
                    m[row + k] = p.m[row] * q.m[k] + p.m[row + 1] * q.m[3 + k] + p.m[row + 2] * q.m[6 + k];
                    sum += p.m[row + k] * q.s[k];
                }
                s[row / 3] = Math.floorMod(sum, TURN);
            }
        }

        int move(int place) {
            int x = place / (TURN * TURN);
            int y = place / TURN % TURN;
            int z = place % TURN;
            int to = 0;
            for (int row = 0; row < 3; row++) {
                int sum = m[3 * row] * x + m[3 * row + 1] * y + m[3 * row + 2] * z + s[row];
                to = to * TURN + Math.floorMod(sum, TURN);
            }
            return to;
        }

        /** Number k of the row h, k, l times the matrix. */
        int column(int k, int x, int y, int z) {
            return x * m[k] + y * m[3 + k] + z * m[6 + k];
        }

        int turn(int x, int y, int z) {
            return Math.floorMod(x * s[0] + y * s[1] + z * s[2], TURN);
        }
    }

    /** The TEXT, its FAULT, and OUT. */
    private static final class Scribe {
        static final int MOST_BYTES = 100;
        static final int MOST_WAITING = 20;
        static final int FINISH = -1;

        final int[] waiting = new int[MOST_WAITING];
        final int[] text = new int[MOST_BYTES];
        int length = 0;
        int spot = 0;
        int flaw = 0;
        int flawPlace = NONE;
        // While a text is parsed, the numbers of its matrix may be any.
        final Motion found = new Motion();

        // No text is longer than "-x-y-z+23/24" three times.
        final char[] out = new char[48];
        int outCount = 0;

        void lay(int from, int word) {
            for (int i = 0; i < 4; i++) {
                waiting[from + i] = (word >>> (24 - 8 * i)) & 255;
            }
        }

        int append(int n) {
            if (n < 0 || n > MOST_WAITING || length + n > MOST_BYTES) {
                return NONE;
            }
            System.arraycopy(waiting, 0, text, length, n);
            length += n;
            Arrays.fill(waiting, 0);
            return length;
        }

        void report(int kind, int place) {
            flaw = kind;
            flawPlace = place;
        }

        /** The code of the text's operation, NONE behind a report; the text is empty then. */
        int parse() {
            spot = 0;
            report(0, NONE);
            found.clear();
            for (int row = 0; row < 3 && flaw == 0; row++) {
                parseExpression(row);
                if (flaw == 0) {
                    parseBorder(row < 2 ? ',' : FINISH);
                }
            }
            if (flaw == 0) {
                checkMatrix();
            }
            length = 0;
            return flaw == 0 ? found.code() : NONE;
        }

        void checkMatrix() {
            if (!found.isSmall()) {
                report(3, length);
            } else if (Math.abs(found.determinant()) != 1) {
                report(4, length);
            }
        }

        int peek() {
            return spot < length ? text[spot] : FINISH;
        }

        void skipBlanks() {
            while (spot < length && text[spot] == ' ') {
                spot++;
            }
        }

        boolean seesSign() {
            return spot < length && (text[spot] == '+' || text[spot] == '-');
        }

        boolean seesDigit() {
            return spot < length && text[spot] >= '0' && text[spot] <= '9';
        }

        void parseBorder(int due) {
            if (peek() != due) {
                report(1, spot);
            } else {
                spot++;
            }
        }

        void parseExpression(int row) {
            skipBlanks();
            int sign = seesSign() ? takeSign() : 1;
            parseTerm(row, sign);
            skipBlanks();
            for (int i = 0; i < MOST_BYTES && flaw == 0 && seesSign(); i++) {
                sign = takeSign();
                parseTerm(row, sign);
                skipBlanks();
            }
        }

        int takeSign() {
            int sign = peek() == '-' ? -1 : 1;
            spot++;
            skipBlanks();
            return sign;
        }

        void parseTerm(int row, int sign) {
            int seen = peek();
            if (seen >= 'x' && seen <= 'z') {
                found.m[3 * row + seen - 'x'] += sign;
                spot++;
            } else if (seesDigit()) {
                parseShift(row, sign);
            } else {
                report(1, spot);
            }
        }

        void parseShift(int row, int sign) {
            int start = spot;
            int over = takeNumber();
            skipBlanks();
            if (peek() != '/') {
                // Whole edges are nothing modulo 24.
                return;
            }
            spot++;
            skipBlanks();
            if (!seesDigit()) {
                report(1, spot);
                return;
            }
            int under = takeNumber();
            if (under == 0 || TURN * over % under != 0) {
                report(2, start);
                return;
            }
            found.s[row] = Math.floorMod(found.s[row] + sign * (TURN * over / under), TURN);
        }

        int takeNumber() {
            int number = 0;
            for (int i = 0; i < 2 && seesDigit(); i++) {
                number = number * 10 + peek() - '0';
                spot++;
            }
            return number;
        }

        /** OUT becomes the text of an operation: how many characters. */
        int write(Motion motion) {
            outCount = 0;
            for (int row = 0; row < 3; row++) {
                if (row > 0) {
                    writeChar(',');
                }
                writeLetters(motion, row);
                writeShift(motion.s[row]);
            }
            return outCount;
        }

        void writeChar(int letter) {
            if (outCount < out.length) {
                out[outCount] = (char) letter;
                outCount++;
            }
        }

        void writeLetters(Motion motion, int row) {
            boolean first = true;
            for (int k = 0; k < 3; k++) {
                int number = motion.m[3 * row + k];
                if (number < 0) {
                    writeChar('-');
                } else if (number > 0 && !first) {
                    writeChar('+');
                }
                if (number != 0) {
                    writeChar('x' + k);
                    first = false;
                }
            }
        }

        void writeShift(int shift) {
            if (shift == 0) {
                return;
            }
            int common = (int) commonDivisor(shift, TURN);
            writeChar('+');
            writeNumber(shift / common);
            writeChar('/');
            writeNumber(TURN / common);
        }

        void writeNumber(int number) {
            if (number > 9) {
                writeChar('0' + number / 10);
            }
            writeChar('0' + number % 10);
        }
    }

    /** Where a group is made of operations that are taken one after another. */
    private static final class Closure {
        final Row ops = new Row(MOST_IN_GROUP);
        final int[] found = new int[MOST_IN_GROUP];
        final int[] makers = new int[MOST_MAKERS];
        int makerCount = 0;
        final Motion first = new Motion();
        final Motion second = new Motion();
        final Motion both = new Motion();

        void begin() {
            ops.clear();
            ops.put(SAME);
            found[0] = SAME;
            makerCount = 0;
        }

        /** False: there is no group with it. One that is here already makes nothing new. */
        boolean take(int code) {
            if (ops.find(code) != NONE) {
                return true;
            }
            if (makerCount >= MOST_MAKERS) {
                return false;
            }
            int closed = ops.count;
            makers[makerCount] = code;
            makerCount++;
            for (int i = 0; i < ops.count && i < MOST_IN_GROUP; i++) {
                if (!extend(found[i], i < closed ? makerCount - 1 : 0)) {
                    return false;
                }
            }
            return true;
        }

        /** Takes in the products of an operation and the makers; false if one can't be. */
        boolean extend(int code, int fromMaker) {
            first.open(code);
            for (int k = fromMaker; k < makerCount; k++) {
                second.open(makers[k]);
                both.join(first, second);
                int product = both.code();
                int count = ops.count;
                if (product == NONE || !ops.put(product)) {
                    return false;
                }
                if (ops.count > count) {
                    found[count] = product;
                }
            }
            return true;
        }
    }

    private static final class Group {
        final Row ops;
        final int[] makers;
        // Both are made when they are first asked for.
        int alike = NONE;
        int[] sides = null;
        int sideBits = 0;

        Group(Closure made) {
            ops = new Row(made.ops.count);
            ops.copy(made.ops);
            makers = Arrays.copyOf(made.makers, Math.max(made.makerCount, 0));
        }

        /** Whether operation i is the first one with its matrix. */
        boolean bringsMatrix(int i) {
            return i == 0 || ops.at[i] / PLACES != ops.at[i - 1] / PLACES;
        }

        int countMatrices() {
            int count = 0;
            for (int i = 0; i < ops.count; i++) {
                if (bringsMatrix(i)) {
                    count++;
                }
            }
            return count;
        }

        int countCentrings() {
            return ops.seat(SAME + PLACES) - ops.seat(SAME);
        }

        boolean hasCentring(int shift) {
            return ops.find(SAME + shift) != NONE;
        }

        int centringLetter() {
            switch (countCentrings()) {
                case 1:
                    return 0;
                case 2:
                    return letterOfTwo();
                case 3:
                    if (hasCentring(OBVERSE)) {
                        return 6;
                    }
                    return hasCentring(REVERSE) ? 7 : 8;
                case 4:
                    return hasCentring(CENTRED_A) && hasCentring(CENTRED_B) ? 5 : 8;
                default:
                    return 8;
            }
        }

        int letterOfTwo() {
            if (hasCentring(CENTRED_A)) {
                return 1;
            }
            if (hasCentring(CENTRED_B)) {
                return 2;
            }
            if (hasCentring(CENTRED_C)) {
                return 3;
            }
            return hasCentring(CENTRED_I) ? 4 : 8;
        }
    }

    /** Six numbers of a cell: A, B, C, and X, Y, Z, which are D, E, F doubled. */
    private static final class Form {
        static final int MOST_ROUNDS = 1000000;

        long a = 0;
        long b = 0;
        long c = 0;
        long x = 0;
        long y = 0;
        long z = 0;

        void set(long na, long nb, long nc, long nx, long ny, long nz) {
            a = na;
            b = nb;
            c = nc;
            x = nx;
            y = ny;
            z = nz;
        }

        void copy(Form other) {
            set(other.a, other.b, other.c, other.x, other.y, other.z);
        }

        long number(int what) {
            switch (what) {
                case 0:
                    return a;
                case 1:
                    return b;
                case 2:
                    return c;
                case 3:
                    return x / 2;
                case 4:
                    return y / 2;
                case 5:
                    return z / 2;
                default:
                    return 0;
            }
        }

        long determinant() {
            return determinantOf(a, b, c, x / 2, y / 2, z / 2);
        }

        static long determinantOf(long a, long b, long c, long d, long e, long f) {
            return a * (b * c - d * d) - f * (f * c - d * e) + e * (f * d - b * e);
        }

        /** The product with itself of a sum of edges. */
        long square(long u, long v, long w) {
            return a * u * u + b * v * v + c * w * w + x * v * w + y * u * w + z * u * v;
        }

        /** Twice the product of two sums of edges. */
        long twice(long u, long v, long w, long p, long q, long r) {
            return 2 * (a * u * p + b * v * q + c * w * r)
                + x * (v * r + w * q) + y * (u * r + w * p) + z * (u * q + v * p);
        }

        boolean keptBy(int[] m) {
            return m.length >= 9
                && square(m[0], m[3], m[6]) == a
                && square(m[1], m[4], m[7]) == b
                && square(m[2], m[5], m[8]) == c
                && twice(m[1], m[4], m[7], m[2], m[5], m[8]) == x
                && twice(m[0], m[3], m[6], m[2], m[5], m[8]) == y
                && twice(m[0], m[3], m[6], m[1], m[4], m[7]) == z;
        }

        void reduce() {
            for (int i = 0; i < MOST_ROUNDS; i++) {
                swapFirst();
                if (!swapLast()) {
                    alignSigns();
                    if (!lessenX() && !lessenY() && !lessenZ() && !lessenSum()) {
                        return;
                    }
                }
            }
        }

        void swapFirst() {
            if (a > b || a == b && Math.abs(x) > Math.abs(y)) {
                set(b, a, c, y, x, z);
            }
        }

        boolean swapLast() {
            if (b > c || b == c && Math.abs(y) > Math.abs(z)) {
                set(a, c, b, x, z, y);
                return true;
            }
            return false;
        }

        void alignSigns() {
            // Not by the product itself: with MULTIPLES it may be more than a long holds.
            boolean negative = (x < 0) ^ (y < 0) ^ (z < 0);
            long sign = x == 0 || y == 0 || z == 0 || negative ? -1 : 1;
            x = sign * Math.abs(x);
            y = sign * Math.abs(y);
            z = sign * Math.abs(z);
        }

        boolean lessenX() {
            if (Math.abs(x) > b || x == b && 2 * y < z || x == -b && z < 0) {
                long s = x > 0 ? 1 : -1;
                set(a, b, b + c - s * x, x - 2 * s * b, y - s * z, z);
                return true;
            }
            return false;
        }

        boolean lessenY() {
            if (Math.abs(y) > a || y == a && 2 * x < z || y == -a && z < 0) {
                long s = y > 0 ? 1 : -1;
                set(a, b, a + c - s * y, x - s * z, y - 2 * s * a, z);
                return true;
            }
            return false;
        }

        boolean lessenZ() {
            if (Math.abs(z) > a || z == a && 2 * x < y || z == -a && y < 0) {
                long s = z > 0 ? 1 : -1;
                set(a, a + b - s * z, c, x - s * y, y, z - 2 * s * a);
                return true;
            }
            return false;
        }

        boolean lessenSum() {
            long sum = x + y + z + a + b;
            if (sum < 0 || sum == 0 && 2 * (a + y) + z > 0) {
                set(a, b, c + sum, 2 * b + x + z, 2 * a + y + z, z);
                return true;
            }
            return false;
        }
    }

    private static final class Cell {
        final Form told = new Form();
        final Form low = new Form();
        final Form made = new Form();
        // Of each n, six numbers of each MULTIPLE, made when they are first asked for.
        final long[][] rows = new long[MOST_TIMES + 1][];
        final int[] counts = new int[MOST_TIMES + 1];
        int keeping = NONE;

        /** The SYMMETRY. What keeps the six keeps the volume, so its determinant is 1 or -1. */
        int countKeeping() {
            if (keeping == NONE) {
                keeping = 0;
                for (int i = 0; i < AROUND; i++) {
                    if (low.square(part(i, 9), part(i, 3), part(i, 1)) == low.a) {
                        keeping += countKeepingWith(i);
                    }
                }
            }
            return keeping;
        }

        int countKeepingWith(int i) {
            int count = 0;
            for (int j = 0; j < AROUND; j++) {
                if (low.square(part(j, 9), part(j, 3), part(j, 1)) == low.b && twiceOf(i, j) == low.z) {
                    for (int k = 0; k < AROUND; k++) {
                        if (low.square(part(k, 9), part(k, 3), part(k, 1)) == low.c
                            && twiceOf(i, k) == low.y && twiceOf(j, k) == low.x) {
                            count++;
                        }
                    }
                }
            }
            return count;
        }

        long twiceOf(int i, int j) {
            return low.twice(part(i, 9), part(i, 3), part(i, 1), part(j, 9), part(j, 3), part(j, 1));
        }

        int countMultiples(int n) {
            if (n < 1 || n > MOST_TIMES) {
                return 0;
            }
            if (rows[n] == null) {
                long[] row = new long[6 * LATTICES[n]];
                int count = 0;
                for (int p = 1; p <= n; p++) {
                    for (int r = 1; p * r <= n; r++) {
                        if (n % (p * r) == 0) {
                            count = gatherMultiples(row, count, p, r, n / (p * r));
                        }
                    }
                }
                rows[n] = row;
                counts[n] = count;
            }
            return counts[n];
        }

        /** Puts the multiples of three divisors into a row: how many it has then. */
        int gatherMultiples(long[] row, int count, int p, int r, int u) {
            int now = count;
            for (int q = 0; q < p; q++) {
                for (int s = 0; s < p; s++) {
                    for (int t = 0; t < r; t++) {
                        made.set(told.square(p, 0, 0), told.square(q, r, 0), told.square(s, t, u),
                            told.twice(q, r, 0, s, t, u), told.twice(p, 0, 0, s, t, u),
                            told.twice(p, 0, 0, q, r, 0));
                        made.reduce();
                        now = putMade(row, now);
                    }
                }
            }
            return now;
        }

        int putMade(long[] row, int count) {
            int seat = seatOfMade(row, count);
            if (seat < count && compareMade(row, seat) == 0 || 6 * count + 6 > row.length) {
                return count;
            }
            System.arraycopy(row, 6 * seat, row, 6 * seat + 6, 6 * (count - seat));
            for (int what = 0; what < 6; what++) {
                row[6 * seat + what] = made.number(what);
            }
            return count + 1;
        }

        int seatOfMade(long[] row, int count) {
            int below = 0;
            int over = count;
            for (int i = 0; i < 32 && below < over; i++) {
                int middle = (below + over) >>> 1;
                if (compareMade(row, middle) > 0) {
                    below = middle + 1;
                } else {
                    over = middle;
                }
            }
            return below;
        }

        int compareMade(long[] row, int k) {
            for (int what = 0; what < 6; what++) {
                int order = Long.compare(made.number(what), row[6 * k + what]);
                if (order != 0) {
                    return order;
                }
            }
            return 0;
        }
    }

    /** One of the three numbers -1, 0, 1 that a number 0 .. 26 stands for: the one of 9, 3 or 1. */
    private static int part(int around, int unit) {
        return around / Math.max(unit, 1) % 3 - 1;
    }

    private static final class Model {
        final Group symmetry;
        final Form metric;
        final int[] spots = new int[3 * MOST_PLACED];
        final int[] owners = new int[MOST_PLACED];
        int count = 0;
        final int[] weights = new int[MOST_ATOMS];
        int told = 0;
        // Each taken place times 512, and the number of its atom.
        final Row taken = new Row(MOST_PLACED);
        final Lines[] spectra = new Lines[MOST_WITHIN + 1];

        Model(Group group, Form form) {
            symmetry = group;
            metric = form;
        }

        boolean holds(int i) {
            return i >= 0 && i < count;
        }

        int placeOf(int i) {
            return (spots[3 * i] * TURN + spots[3 * i + 1]) * TURN + spots[3 * i + 2];
        }

        int weightOf(int i) {
            return weights[owners[i]];
        }

        int atomAt(int place) {
            int seat = taken.seat(place * 512);
            return seat < taken.count && taken.at[seat] / 512 == place ? taken.at[seat] % 512 : NONE;
        }

        /** False, refused, if there is no room at all places of an orbit. */
        boolean settle(int weight, Row orbit) {
            if (told >= MOST_ATOMS || count + orbit.count > MOST_PLACED) {
                return false;
            }
            for (int i = 0; i < orbit.count; i++) {
                if (atomAt(orbit.at[i]) != NONE) {
                    return false;
                }
            }
            for (int i = 0; i < orbit.count; i++) {
                put(orbit.at[i]);
            }
            weights[told] = weight;
            told++;
            return true;
        }

        void put(int place) {
            spots[3 * count] = place / (TURN * TURN);
            spots[3 * count + 1] = place / TURN % TURN;
            spots[3 * count + 2] = place % TURN;
            owners[count] = told;
            taken.put(place * 512 + count);
            count++;
        }

        long squareBetween(int i, int j, int around) {
            return metric.square(
                spots[3 * j] - spots[3 * i] + TURN * part(around, 9),
                spots[3 * j + 1] - spots[3 * i + 1] + TURN * part(around, 3),
                spots[3 * j + 2] - spots[3 * i + 2] + TURN * part(around, 1));
        }

        /** Whether it is i itself, in the cell itself. */
        boolean isSelf(int i, int j, int around) {
            return i == j && around == AROUND / 2;
        }

        long leastBetween(int i, int j) {
            long least = Long.MAX_VALUE;
            for (int around = 0; around < AROUND; around++) {
                if (!isSelf(i, j, around)) {
                    least = Math.min(least, squareBetween(i, j, around));
                }
            }
            return least;
        }

        int countAround(int i, long r) {
            int near = 0;
            for (int j = 0; j < count; j++) {
                for (int around = 0; around < AROUND; around++) {
                    if (!isSelf(i, j, around) && squareBetween(i, j, around) <= r) {
                        near++;
                    }
                }
            }
            return near;
        }

        long sumOfPairs(int place) {
            int x = place / (TURN * TURN);
            int y = place / TURN % TURN;
            int z = place % TURN;
            long sum = 0;
            for (int i = 0; i < count; i++) {
                int to = (spots[3 * i] + x) % TURN;
                to = to * TURN + (spots[3 * i + 1] + y) % TURN;
                to = to * TURN + (spots[3 * i + 2] + z) % TURN;
                int j = atomAt(to);
                if (j != NONE) {
                    sum += weightOf(i) * weightOf(j);
                }
            }
            return sum;
        }
    }

    /** The WAVE of an h, and its POWER. */
    private static final class Wave {
        final long[] cosines = new long[4];
        final long[] sines = new long[4];
        final long[] power = new long[4];
        // The weights at each 24th of a turn.
        final int[] heaps = new int[TURN];

        void sum(Model model, int h, int k, int l) {
            Arrays.fill(heaps, 0);
            for (int i = 0; i < model.count; i++) {
                int turn = h * model.spots[3 * i] + k * model.spots[3 * i + 1] + l * model.spots[3 * i + 2];
                heaps[Math.floorMod(turn, TURN)] += model.weightOf(i);
            }
            // A sine is the cosine of a quarter less, which is of three quarters more.
            addHeaps(cosines, 0);
            addHeaps(sines, 18);
            Arrays.fill(power, 0);
            addSquare(cosines);
            addSquare(sines);
        }

        void addHeaps(long[] exact, int ahead) {
            Arrays.fill(exact, 0);
            for (int turn = 0; turn < TURN; turn++) {
                long heap = heaps[turn];
                if (heap != 0) {
                    int row = 4 * ((turn + ahead) % TURN);
                    for (int k = 0; k < 4; k++) {
                        exact[k] += heap * COSINES[row + k];
                    }
                }
            }
        }

        void addSquare(long[] n) {
            power[0] += n[0] * n[0] + 2 * n[1] * n[1] + 3 * n[2] * n[2] + 6 * n[3] * n[3];
            power[1] += 2 * n[0] * n[1] + 6 * n[2] * n[3];
            power[2] += 2 * n[0] * n[2] + 4 * n[1] * n[3];
            power[3] += 2 * n[0] * n[3] + 2 * n[1] * n[2];
        }

        /** The first number of the power is made of the squares of all numbers of the wave. */
        boolean isZero() {
            return power[0] == 0;
        }
    }

    /** The LINES of a model within m. */
    private static final class Lines {
        final int within;
        // Q, how many h, and four of their powers, as they were found.
        final long[] rows;
        // Numbers of rows, the lowest Q first.
        final int[] order;
        int count = 0;
        // How many atoms were told when the lines were gathered.
        int toldThen = 0;

        Lines(int m) {
            within = m;
            int side = 2 * m + 1;
            int most = Math.max(side * side * side / 2, 0);
            rows = new long[6 * most];
            order = new int[most];
        }

        void renew(Model model, Wave wave) {
            if (toldThen != model.told) {
                toldThen = model.told;
                count = 0;
                gather(model, wave);
            }
        }

        /** An h and its opposite have one Q and one power: those whose first number but 0 is above it stand for both. */
        void gather(Model model, Wave wave) {
            Form back = reciprocal(model.metric);
            for (int h = 0; h <= within; h++) {
                for (int k = h == 0 ? 0 : -within; k <= within; k++) {
                    for (int l = h == 0 && k == 0 ? 1 : -within; l <= within; l++) {
                        wave.sum(model, h, k, l);
                        if (!wave.isZero()) {
                            addPair(back.square(h, k, l), wave.power);
                        }
                    }
                }
            }
        }

        static Form reciprocal(Form six) {
            long d = six.x / 2;
            long e = six.y / 2;
            long f = six.z / 2;
            Form back = new Form();
            back.set(six.b * six.c - d * d, six.a * six.c - e * e, six.a * six.b - f * f,
                2 * (e * f - six.a * d), 2 * (d * f - six.b * e), 2 * (d * e - six.c * f));
            return back;
        }

        void addPair(long q, long[] power) {
            int seat = seat(q);
            if (seat >= count || rows[6 * order[seat]] != q) {
                if (count >= order.length) {
                    return;
                }
                System.arraycopy(order, seat, order, seat + 1, count - seat);
                order[seat] = count;
                startRow(6 * count, q);
                count++;
            }
            int row = 6 * order[seat];
            rows[row + 1] += 2;
            for (int k = 0; k < 4; k++) {
                rows[row + 2 + k] += 2 * power[k];
            }
        }

        /** What stood there may be of lines that were gathered before. */
        void startRow(int row, long q) {
            rows[row] = q;
            for (int k = 1; k < 6; k++) {
                rows[row + k] = 0;
            }
        }

        int seat(long q) {
            int low = 0;
            int high = count;
            for (int i = 0; i < 32 && low < high; i++) {
                int middle = (low + high) >>> 1;
                if (rows[6 * order[middle]] < q) {
                    low = middle + 1;
                } else {
                    high = middle;
                }
            }
            return low;
        }
    }

    private static final class Phases {
        final int[] p = new int[MOST_PHASES];
        final int[] q = new int[MOST_PHASES];
        final long[] energy = new long[MOST_PHASES];
        int count = 0;
        // ABOVE of the phase that was weighed last.
        long upper = 0;
        long lower = 1;

        int keep(int np, int nq, long e) {
            if (count >= MOST_PHASES || np < 0 || np > MOST_PART || nq < 0 || nq > MOST_PART || np + nq == 0
                || e < -MOST_ENERGY || e > MOST_ENERGY) {
                return NONE;
            }
            int number = count;
            p[number] = np;
            q[number] = nq;
            energy[number] = e;
            count++;
            return number;
        }

        /** Above 0 if the share of j is greater than that of i; 0 if they are equal. */
        long cross(int i, int j) {
            return p[i] * q[j] - q[i] * p[j];
        }

        /** The hull at a share is the lowest of what phases of this share, or mixtures of two around it, have. */
        void weigh(int k) {
            upper = 0;
            lower = 1;
            for (int i = 0; i < count; i++) {
                long side = cross(i, k);
                if (side == 0) {
                    long own = p[k] + q[k];
                    long other = p[i] + q[i];
                    offer(energy[k] * other - energy[i] * own, other);
                } else if (side > 0) {
                    weighMixtures(k, i);
                }
            }
            lower *= p[k] + q[k];
            long common = commonDivisor(upper, lower);
            upper /= common;
            lower /= common;
        }

        void weighMixtures(int k, int i) {
            for (int j = 0; j < count; j++) {
                if (cross(k, j) > 0) {
                    long whole = cross(i, j);
                    offer(energy[k] * whole - energy[i] * cross(k, j) - energy[j] * cross(i, k), whole);
                }
            }
        }

        void offer(long over, long under) {
            if (over * lower > upper * under) {
                upper = over;
                lower = under;
            }
        }

        int countStable() {
            int stable = 0;
            for (int k = 0; k < count; k++) {
                weigh(k);
                if (upper == 0) {
                    stable++;
                }
            }
            return stable;
        }
    }
}
