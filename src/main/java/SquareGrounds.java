/**
 * Grounds of unit squares, glued side to side. The project's document says, as numbered promises, what each
 * public call answers; words in capitals below are the document's terms.
 *
 * All rows are made with the object and used again: no call makes an object.
 */
public final class SquareGrounds {
    public static final int BAD = -1, FULL = -2, FINDING = -3, STATE = -4, SPENT = -6, NONE = -9;

    private static final int NOTHING = 1, BEYOND = 2, UNLIKE = 3, NOUGHT = 4, SIZE = 5;
    private static final int EVEN = 1, SINGLE = 2, TWIN = 3;
    private static final int SHEETS = 4, GROUNDS = 10, MOST_SQUARES = 8, MOST_REACHED = 500;
    private static final int MOST_SHEARS = 100, STEEPEST = 50;

    // Each of 1 .. 8 divides 840, so sums of fractions with such lower numbers are kept as whole 840ths.
    private static final long WHOLE = 840;
    private static final int[] PART_OF_WHOLE = {0, 840, 420, 280, 210, 168, 140, 120, 105};

    private final Sheet[] sheets = new Sheet[SHEETS];
    private final Ground[] grounds = new Ground[GROUNDS];
    private final Ground seen = new Ground();
    private final Corners corners = new Corners();
    private final Naming naming = new Naming();
    private final Cylinders lying = new Cylinders();
    private final Reach orbit = new Reach();
    private final Fraction fraction = new Fraction();
    private final int[] timesFound = new int[SIZE + 1];
    private int latestFinding = 0;

    public SquareGrounds() {
        for (int s = 0; s < SHEETS; s++) {
            sheets[s] = new Sheet();
        }
        for (int g = 0; g < GROUNDS; g++) {
            grounds[g] = new Ground();
        }
    }

    // ---- 1 sheets, grounds

    public int sheet(int s, int n) {
        if (!isSheetNumber(s) || n > MOST_SQUARES) {
            return BAD;
        }
        if (n < 0) {
            return found(SIZE);
        }
        sheets[s].clear(n);
        return n;
    }

    public int lay(int s, int i, int v) {
        if (!isSheetNumber(s)) {
            return BAD;
        }
        Sheet sheet = sheets[s];
        if (sheet.isMissing()) {
            return found(NOTHING);
        }
        if (i < 0 || i >= sheet.size) {
            return found(BEYOND);
        }
        int before = sheet.bytes[i];
        sheet.bytes[i] = (byte) v;
        return before + 1000;
    }

    public int tear(int s) {
        if (!isSheetNumber(s)) {
            return BAD;
        }
        if (sheets[s].isMissing()) {
            return found(NOTHING);
        }
        sheets[s].vanish();
        return 1;
    }

    public int copy(int s, int i, int to, int j, int n) {
        if (!isSheetNumber(s) || !isSheetNumber(to)) {
            return BAD;
        }
        if (n < 0) {
            return found(SIZE);
        }
        Sheet from = sheets[s];
        Sheet into = sheets[to];
        if (from.isMissing() || into.isMissing()) {
            return found(NOTHING);
        }
        if (!from.has(i, n) || !into.has(j, n)) {
            return found(BEYOND);
        }
        System.arraycopy(from.bytes, i, into.bytes, j, n);
        return 1;
    }

    public int ground(int g, int right, int up) {
        if (!isGroundNumber(g) || !isSheetNumber(right) || !isSheetNumber(up)) {
            return BAD;
        }
        Sheet rights = sheets[right];
        Sheet ups = sheets[up];
        if (rights.isMissing() || ups.isMissing()) {
            return found(NOTHING);
        }
        if (!tellGround(rights, ups)) {
            return STATE;
        }
        grounds[g].layOut(rights, ups);
        return grounds[g].n;
    }

    public int drop(int g) {
        if (!isGroundNumber(g)) {
            return BAD;
        }
        if (grounds[g].isMissing()) {
            return found(NOTHING);
        }
        grounds[g].vanish();
        return 1;
    }

    public int twin(int g, int to) {
        if (!isGroundNumber(g) || !isGroundNumber(to)) {
            return BAD;
        }
        if (grounds[g].isMissing()) {
            return found(NOTHING);
        }
        grounds[to].become(grounds[g]);
        return grounds[to].n;
    }

    public int told(int g, int what) {
        if (!isGroundNumber(g) || what < 0 || what > 5) {
            return BAD;
        }
        Ground ground = grounds[g];
        if (ground.isMissing()) {
            return found(NOTHING);
        }
        if (what == 0) {
            return ground.n;
        }
        if (what == 5) {
            naming.look(ground);
            return naming.selves;
        }
        corners.look(ground);
        return corners.fact(what);
    }

    public int mark(int g, int kind) {
        if (!isGroundNumber(g) || kind < EVEN || kind > TWIN) {
            return BAD;
        }
        Ground ground = grounds[g];
        if (ground.isMissing()) {
            return found(NOTHING);
        }
        corners.look(ground);
        if (corners.kind() != kind) {
            return found(UNLIKE);
        }
        if (kind == EVEN) {
            return ground.ringLength(0);
        }
        return kind == SINGLE ? corners.sumOfBends : corners.bentSquares();
    }

    public int next(int g, int square, boolean up) {
        if (!isGroundNumber(g)) {
            return BAD;
        }
        Ground ground = grounds[g];
        if (ground.isMissing()) {
            return found(NOTHING);
        }
        if (!ground.has(square)) {
            return found(BEYOND);
        }
        return up ? ground.up[square] : ground.right[square];
    }

    public int bend(int g, int square) {
        if (!isGroundNumber(g)) {
            return BAD;
        }
        Ground ground = grounds[g];
        if (ground.isMissing()) {
            return found(NOTHING);
        }
        if (!ground.has(square)) {
            return found(BEYOND);
        }
        corners.look(ground);
        return corners.bendAt[square];
    }

    public int name(int g, int i) {
        if (!isGroundNumber(g)) {
            return BAD;
        }
        Ground ground = grounds[g];
        if (ground.isMissing()) {
            return found(NOTHING);
        }
        if (i < 0 || i >= 2 * ground.n) {
            return found(BEYOND);
        }
        naming.look(ground);
        return place(naming.least, ground.n, i);
    }

    public int alike(int g, int h) {
        if (!isGroundNumber(g) || !isGroundNumber(h)) {
            return BAD;
        }
        Ground one = grounds[g];
        Ground other = grounds[h];
        if (one.isMissing() || other.isMissing()) {
            return found(NOTHING);
        }
        naming.look(one);
        long name = naming.least;
        naming.look(other);
        return one.n == other.n && name == naming.least ? 1 : 0;
    }

    public int mean(int g) {
        if (!isGroundNumber(g)) {
            return BAD;
        }
        if (grounds[g].isMissing()) {
            return found(NOTHING);
        }
        corners.look(grounds[g]);
        if (corners.bent == 0) {
            return found(NOUGHT);
        }
        return corners.bentSquares() / corners.bent;
    }

    // ---- 2 shears, turns, cylinders

    public int shear(int g, int k) {
        if (!isGroundNumber(g) || k < -MOST_SHEARS || k > MOST_SHEARS) {
            return BAD;
        }
        if (grounds[g].isMissing()) {
            return found(NOTHING);
        }
        grounds[g].slide(k);
        return grounds[g].n;
    }

    public int turn(int g) {
        if (!isGroundNumber(g)) {
            return BAD;
        }
        if (grounds[g].isMissing()) {
            return found(NOTHING);
        }
        grounds[g].quarter();
        return grounds[g].n;
    }

    public int see(int g, int p, int q) {
        if (!isGroundNumber(g) || !isSlope(p, q)) {
            return BAD;
        }
        if (grounds[g].isMissing()) {
            return found(NOTHING);
        }
        grounds[g].tilt(p, q);
        return grounds[g].n;
    }

    public int cylinders(int g, int p, int q) {
        if (!isGroundNumber(g) || !isSlope(p, q)) {
            return BAD;
        }
        if (grounds[g].isMissing()) {
            return found(NOTHING);
        }
        seen.become(grounds[g]);
        seen.tilt(p, q);
        lying.look(seen);
        return lying.size;
    }

    public int cylinder(int g, int i, int what) {
        if (!isGroundNumber(g) || what < 0 || what > 2) {
            return BAD;
        }
        if (grounds[g].isMissing()) {
            return found(NOTHING);
        }
        lying.look(grounds[g]);
        if (i < 0 || i >= lying.size) {
            return NONE;
        }
        if (what == 0) {
            return lying.around[i];
        }
        return what == 1 ? lying.high[i] : lying.least[i];
    }

    public int share(int g) {
        if (!isGroundNumber(g)) {
            return BAD;
        }
        if (grounds[g].isMissing()) {
            return found(NOTHING);
        }
        lying.look(grounds[g]);
        fraction.tell(lying.wholeParts(), WHOLE);
        return 1;
    }

    public int reach(int g) {
        int refused = refusedReach(g);
        return refused != 0 ? refused : orbit.size;
    }

    public int reached(int g, int i, int what) {
        if (what < 0 || what > 3) {
            return BAD;
        }
        int refused = refusedReach(g);
        if (refused != 0) {
            return refused;
        }
        if (i < 0 || i >= orbit.size) {
            return NONE;
        }
        if (what == 0) {
            return orbit.sheared[i];
        }
        if (what == 1) {
            return orbit.turned[i];
        }
        seen.unfold(orbit.n, orbit.names[i]);
        return what == 2 ? selvesOf(seen) : cylindersOf(seen);
    }

    public int cusps(int g) {
        int refused = refusedReach(g);
        return refused != 0 ? refused : orbit.rounds();
    }

    public int width(int g, int i) {
        int refused = refusedReach(g);
        if (refused != 0) {
            return refused;
        }
        int length = orbit.roundLength(i);
        return length == 0 ? NONE : length;
    }

    public int meanShare(int g) {
        int refused = refusedReach(g);
        if (refused != 0) {
            return refused;
        }
        fraction.tell(sharesInReach(), WHOLE * orbit.size);
        return 1;
    }

    public int twist(int g) {
        int refused = refusedReach(g);
        if (refused != 0) {
            return refused;
        }
        corners.look(grounds[g]);
        long bends = corners.wholeParts * orbit.size;
        fraction.tell(bends + 12 * sharesInReach(), 12 * WHOLE * orbit.size);
        return 1;
    }

    public int comes(int g, int h) {
        if (!isGroundNumber(g) || !isGroundNumber(h)) {
            return BAD;
        }
        if (grounds[h].isMissing()) {
            return found(NOTHING);
        }
        int refused = refusedReach(g);
        if (refused != 0) {
            return refused;
        }
        naming.look(grounds[h]);
        int number = orbit.n == grounds[h].n ? orbit.numberOf(naming.least) : -1;
        return number < 0 ? NONE : number;
    }

    // ---- 3 what is told

    public long upper() {
        return fraction.over;
    }

    public long lower() {
        return fraction.under;
    }

    public int count(int what) {
        if (what < 0 || what > 2) {
            return BAD;
        }
        return what == 0 ? sheetsThere() : groundsThere(what == 2);
    }

    public int finding() {
        return latestFinding;
    }

    public int findings(int f) {
        return f < NOTHING || f > SIZE ? BAD : timesFound[f];
    }

    public long digest() {
        long h = 17;
        for (int g = 0; g < GROUNDS; g++) {
            h = grounds[g].mixInto(h);
        }
        for (int s = 0; s < SHEETS; s++) {
            h = sheets[s].mixInto(h);
        }
        return h;
    }

    // ---- what the calls share

    private static boolean isSheetNumber(int s) {
        return s >= 0 && s < SHEETS;
    }

    private static boolean isGroundNumber(int g) {
        return g >= 0 && g < GROUNDS;
    }

    private static boolean isSlope(int p, int q) {
        if (p < -STEEPEST || p > STEEPEST || q < 0 || q > STEEPEST) {
            return false;
        }
        return q == 0 ? p == 1 : commonDivisor(Math.abs(p), q) == 1;
    }

    /** Of two numbers that are not below 0. */
    private static long commonDivisor(long one, long other) {
        // Euclid's way needs fewer than 100 steps for any two longs.
        for (int step = 0; step < 100 && other != 0; step++) {
            long rest = one % other;
            one = other;
            other = rest;
        }
        return one;
    }

    /** Place i of a NAME of n SQUARES; its first place has the highest bits. */
    private static int place(long name, int n, int i) {
        return (int) (name >> 3 * (2 * n - 1 - i)) & 7;
    }

    private static boolean tellGround(Sheet rights, Sheet ups) {
        return rights.size == ups.size && rights.size > 0
            && rights.hasEachOnce() && ups.hasEachOnce()
            && hangTogether(rights, ups);
    }

    private static boolean hangTogether(Sheet rights, Sheet ups) {
        int come = 1;
        // Each round comes one step further, and no SQUARE is more than size - 1 steps away.
        for (int round = 1; round < rights.size; round++) {
            for (int s = 0; s < rights.size; s++) {
                if ((come >> s & 1) == 1) {
                    come |= 1 << rights.bytes[s] | 1 << ups.bytes[s];
                }
            }
        }
        return come == (1 << rights.size) - 1;
    }

    private int found(int finding) {
        latestFinding = finding;
        timesFound[finding]++;
        return FINDING;
    }

    /** Fills the orbit with REACH of a GROUND: 0, or why not. */
    private int refusedReach(int g) {
        if (!isGroundNumber(g)) {
            return BAD;
        }
        if (grounds[g].isMissing()) {
            return found(NOTHING);
        }
        orbit.fill(grounds[g]);
        return orbit.spent ? SPENT : 0;
    }

    private int selvesOf(Ground ground) {
        naming.look(ground);
        return naming.selves;
    }

    private int cylindersOf(Ground ground) {
        lying.look(ground);
        return lying.size;
    }

    /** The SHARES of all in REACH together, in 840ths. */
    private long sharesInReach() {
        long sum = 0;
        for (int i = 0; i < orbit.size; i++) {
            seen.unfold(orbit.n, orbit.names[i]);
            lying.look(seen);
            sum += lying.wholeParts();
        }
        return sum;
    }

    private int sheetsThere() {
        int there = 0;
        for (int s = 0; s < SHEETS; s++) {
            there += sheets[s].isMissing() ? 0 : 1;
        }
        return there;
    }

    private int groundsThere(boolean bySquares) {
        int there = 0;
        for (int g = 0; g < GROUNDS; g++) {
            if (!grounds[g].isMissing()) {
                there += bySquares ? grounds[g].n : 1;
            }
        }
        return there;
    }

    private static final class Sheet {
        int size = -1;
        final byte[] bytes = new byte[MOST_SQUARES];

        boolean isMissing() {
            return size < 0;
        }

        void vanish() {
            size = -1;
        }

        void clear(int newSize) {
            size = newSize;
            for (int i = 0; i < MOST_SQUARES; i++) {
                bytes[i] = 0;
            }
        }

        boolean has(int from, int length) {
            // Taken from the size, not added to the place: a sum of two ints could wrap around.
            return from >= 0 && from <= size && length <= size - from;
        }

        boolean hasEachOnce() {
            int met = 0;
            for (int i = 0; i < size; i++) {
                if (bytes[i] < 0 || bytes[i] >= size) {
                    return false;
                }
                met |= 1 << bytes[i];
            }
            return met == (1 << size) - 1;
        }

        long mixInto(long h) {
            h = 31 * h + size;
            for (int i = 0; i < size; i++) {
                h = 31 * h + bytes[i];
            }
            return h;
        }
    }

    /** Keeps all four ways, though two would tell it: then a TURN moves rows, not squares. */
    private static final class Ground {
        int n = -1;
        int[] right = new int[MOST_SQUARES];
        int[] up = new int[MOST_SQUARES];
        int[] left = new int[MOST_SQUARES];
        int[] down = new int[MOST_SQUARES];
        private int[] spare = new int[MOST_SQUARES];

        boolean isMissing() {
            return n < 0;
        }

        void vanish() {
            n = -1;
        }

        boolean has(int square) {
            return square >= 0 && square < n;
        }

        void layOut(Sheet rights, Sheet ups) {
            n = rights.size;
            for (int s = 0; s < n; s++) {
                glue(s, rights.bytes[s], ups.bytes[s]);
            }
        }

        void unfold(int squares, long name) {
            n = squares;
            for (int s = 0; s < n; s++) {
                glue(s, place(name, n, s), place(name, n, n + s));
            }
        }

        void become(Ground other) {
            n = other.n;
            for (int s = 0; s < n; s++) {
                glue(s, other.right[s], other.up[s]);
            }
        }

        private void glue(int square, int rightOfIt, int upOfIt) {
            right[square] = rightOfIt;
            left[rightOfIt] = square;
            up[square] = upOfIt;
            down[upOfIt] = square;
        }

        /** SHEAR, so many times; undone, if below 0. */
        void slide(int times) {
            for (int k = 0; k < times; k++) {
                slideOnce(left, right);
            }
            for (int k = 0; k > times; k--) {
                slideOnce(right, left);
            }
        }

        private void slideOnce(int[] by, int[] back) {
            for (int s = 0; s < n; s++) {
                spare[s] = up[by[s]];
            }
            int[] newUp = spare;
            spare = up;
            up = newUp;
            for (int s = 0; s < n; s++) {
                spare[s] = back[down[s]];
            }
            int[] newDown = spare;
            spare = down;
            down = newDown;
        }

        /** TURN. */
        void quarter() {
            int[] oldRight = right;
            right = down;
            down = left;
            left = up;
            up = oldRight;
        }

        private void quarterBack() {
            int[] oldRight = right;
            right = up;
            up = left;
            left = down;
            down = oldRight;
        }

        /** Becomes what is SEEN in a SLOPE. */
        void tilt(int p, int q) {
            // q falls with each step and begins no higher than STEEPEST.
            for (int step = 0; step <= STEEPEST && q > 0; step++) {
                int times = Math.floorDiv(p, q);
                slide(-times);
                int over = p - q * times;
                quarterBack();
                p = -q;
                q = over;
            }
        }

        int ringLength(int square) {
            int at = right[square];
            int length = 1;
            while (length < n && at != square) {
                at = right[at];
                length++;
            }
            return length;
        }

        int aroundCorner(int square) {
            return down[left[up[right[square]]]];
        }

        long mixInto(long h) {
            h = 31 * h + n;
            for (int s = 0; s < n; s++) {
                h = 31 * h + right[s];
            }
            for (int s = 0; s < n; s++) {
                h = 31 * h + up[s];
            }
            return h;
        }
    }

    private static final class Corners {
        final int[] bendAt = new int[MOST_SQUARES];
        int all;
        int bent;
        int sumOfBends;
        private int leastBend;
        private int mostBend;
        /** The sum of k (k + 2) by (k + 1), in 840ths. */
        long wholeParts;

        void look(Ground ground) {
            all = 0;
            bent = 0;
            sumOfBends = 0;
            leastBend = MOST_SQUARES;
            mostBend = 0;
            wholeParts = 0;
            for (int s = 0; s < ground.n; s++) {
                bendAt[s] = -1;
            }
            for (int s = 0; s < ground.n; s++) {
                if (bendAt[s] < 0) {
                    note(bendFrom(ground, s));
                }
            }
        }

        private int bendFrom(Ground ground, int square) {
            int k = 0;
            int at = ground.aroundCorner(square);
            while (k < ground.n - 1 && at != square) {
                at = ground.aroundCorner(at);
                k++;
            }
            for (int i = 0; i <= k; i++) {
                bendAt[at] = k;
                at = ground.aroundCorner(at);
            }
            return k;
        }

        private void note(int k) {
            all++;
            if (k > 0) {
                bent++;
                sumOfBends += k;
                leastBend = Math.min(leastBend, k);
                mostBend = Math.max(mostBend, k);
                wholeParts += k * (k + 2) * PART_OF_WHOLE[k + 1];
            }
        }

        int kind() {
            if (bent == 0) {
                return EVEN;
            }
            if (bent == 1) {
                return SINGLE;
            }
            return bent == 2 && leastBend == mostBend ? TWIN : 0;
        }

        int bentSquares() {
            return sumOfBends + bent;
        }

        /** By the number that told() has for it. */
        int fact(int what) {
            switch (what) {
                case 1:
                    return kind();
                case 2:
                    return (sumOfBends + 2) / 2;
                case 3:
                    return all;
                default:
                    return bent;
            }
        }
    }

    /** A NAME is kept as one long, three bits a place, the first place highest: the least long is the least row. */
    private static final class Naming {
        private final int[] numberAt = new int[MOST_SQUARES];
        private final int[] squareOf = new int[MOST_SQUARES];
        private int given;
        long least;
        int selves;

        void look(Ground ground) {
            least = Long.MAX_VALUE;
            selves = 0;
            for (int from = 0; from < ground.n; from++) {
                long row = rowFrom(ground, from);
                if (row < least) {
                    least = row;
                    selves = 0;
                }
                if (row == least) {
                    selves++;
                }
            }
        }

        private long rowFrom(Ground ground, int from) {
            for (int s = 0; s < ground.n; s++) {
                numberAt[s] = -1;
            }
            given = 0;
            long rights = number(from);
            long ups = 0;
            // As all hang together, a number i has been given ahead of round i.
            for (int i = 0; i < ground.n; i++) {
                int square = squareOf[i];
                rights = rights << 3 | number(ground.right[square]);
                ups = ups << 3 | number(ground.up[square]);
            }
            return rights << 3 * ground.n | ups;
        }

        private int number(int square) {
            if (numberAt[square] < 0) {
                numberAt[square] = given;
                squareOf[given] = square;
                given++;
            }
            return numberAt[square];
        }
    }

    private static final class Cylinders {
        private final Corners corners = new Corners();
        /** The least SQUARE in a SQUARE's RING, in its CYLINDER. */
        private final int[] ringOf = new int[MOST_SQUARES];
        private final int[] cylinderOf = new int[MOST_SQUARES];
        int size;
        final int[] around = new int[MOST_SQUARES];
        final int[] high = new int[MOST_SQUARES];
        final int[] least = new int[MOST_SQUARES];

        void look(Ground ground) {
            corners.look(ground);
            partInRings(ground);
            for (int s = 0; s < ground.n; s++) {
                if (ringOf[s] == s && liesFlatBelow(ground, s)) {
                    join(ground.n, cylinderOf[s], cylinderOf[ground.up[s]]);
                }
            }
            list(ground);
        }

        private void partInRings(Ground ground) {
            for (int s = 0; s < ground.n; s++) {
                ringOf[s] = -1;
            }
            for (int s = 0; s < ground.n; s++) {
                int at = s;
                for (int k = 0; k < ground.n && ringOf[at] < 0; k++) {
                    ringOf[at] = s;
                    cylinderOf[at] = s;
                    at = ground.right[at];
                }
            }
        }

        /** Whether no CORNER bends between a RING and that above it. */
        private boolean liesFlatBelow(Ground ground, int ring) {
            for (int s = ring; s < ground.n; s++) {
                if (ringOf[s] == ring && corners.bendAt[s] > 0) {
                    return false;
                }
            }
            return true;
        }

        private void join(int n, int one, int other) {
            int kept = Math.min(one, other);
            int given = Math.max(one, other);
            for (int s = 0; s < n; s++) {
                if (cylinderOf[s] == given) {
                    cylinderOf[s] = kept;
                }
            }
        }

        private void list(Ground ground) {
            size = 0;
            for (int s = 0; s < ground.n; s++) {
                if (cylinderOf[s] == s) {
                    around[size] = ground.ringLength(s);
                    high[size] = ringsIn(ground.n, s);
                    least[size] = s;
                    size++;
                }
            }
        }

        private int ringsIn(int n, int cylinder) {
            int rings = 0;
            for (int s = cylinder; s < n; s++) {
                if (cylinderOf[s] == cylinder && ringOf[s] == s) {
                    rings++;
                }
            }
            return rings;
        }

        /** SHARE in 840ths. */
        long wholeParts() {
            long sum = 0;
            for (int i = 0; i < size; i++) {
                sum += high[i] * PART_OF_WHOLE[around[i]];
            }
            return sum;
        }
    }

    /** REACH of the GROUND that was asked for last: kept, as calls about one GROUND often follow one another. */
    private static final class Reach {
        final long[] names = new long[MOST_REACHED];
        final int[] sheared = new int[MOST_REACHED];
        final int[] turned = new int[MOST_REACHED];
        private final Ground step = new Ground();
        private final Naming naming = new Naming();
        int n;
        int size;
        boolean spent;

        void fill(Ground ground) {
            naming.look(ground);
            // REACH hangs on the NAME alone.
            if (n == ground.n && size > 0 && names[0] == naming.least) {
                return;
            }
            n = ground.n;
            names[0] = naming.least;
            size = 1;
            spent = false;
            for (int i = 0; i < MOST_REACHED && i < size && !spent; i++) {
                step.unfold(n, names[i]);
                step.slide(1);
                sheared[i] = numberOrNew();
                step.slide(-1);
                step.quarter();
                turned[i] = numberOrNew();
            }
        }

        /** The number of what the last step came to. */
        private int numberOrNew() {
            naming.look(step);
            int number = numberOf(naming.least);
            if (number >= 0) {
                return number;
            }
            if (size == MOST_REACHED) {
                spent = true;
                return -1;
            }
            names[size] = naming.least;
            size++;
            return size - 1;
        }

        int numberOf(long name) {
            for (int i = 0; i < size; i++) {
                if (names[i] == name) {
                    return i;
                }
            }
            return -1;
        }

        int rounds() {
            int rounds = 0;
            for (int i = 0; i < size; i++) {
                if (roundFrom(i) > 0) {
                    rounds++;
                }
            }
            return rounds;
        }

        /** How many are in a CUSP; 0, if there is none of that number. */
        int roundLength(int cusp) {
            int rounds = 0;
            for (int i = 0; i < size; i++) {
                int length = roundFrom(i);
                if (length > 0) {
                    if (rounds == cusp) {
                        return length;
                    }
                    rounds++;
                }
            }
            return 0;
        }

        /** How many SHEARS lead back to a number; 0, if a lesser one lies on the way: that one stands for the CUSP. */
        private int roundFrom(int number) {
            int at = sheared[number];
            int length = 1;
            while (length < size && at > number) {
                at = sheared[at];
                length++;
            }
            return at == number ? length : 0;
        }
    }

    private static final class Fraction {
        long over = 0;
        long under = 1;

        void tell(long newOver, long newUnder) {
            long divisor = commonDivisor(newOver, newUnder);
            if (divisor > 0) {
                over = newOver / divisor;
                under = newUnder / divisor;
            }
        }
    }
}
