/** A county that counts what is not there; the numbered promises are in the document, see README.md. */
public final class HoleCounty {
    public static final int BAD = -1, NOT = -2, FULL = -3, NONE = -4, NULL = -11, CAST = -12, INDEX = -13, SIZE = -14;

    private static final int SIDE = 6;
    private static final int LAND = 36;
    private static final int NOBODY = 4;
    private static final int DEEPEST = 9;
    private static final int MOST_RATE = 99;
    private static final int MOST_TAX = 9999;
    private static final int MOST_YEARS = 99;
    private static final int MOST_COUNTED = 12;
    private static final int MOST_UNKNOWN = 6;
    private static final int MOST_DUG = 10;
    private static final int SHEETS = 4;
    private static final int LANES = 4;
    private static final int DIGS = 0, FILLS = 1, ROOFS = 2;
    private static final int WORTH_BAD = BAD - 100000;
    private static final int FITS = 0;
    private static final long NO_SET = -1L;

    private final Ground now = new Ground();
    private final Ground kept = new Ground();
    private boolean hasImage;
    private final Tape tape = new Tape();
    private final Row[] rows = new Row[SHEETS];
    private final Mole mole = new Mole();

    public HoleCounty() {
        for (int i = 0; i < SHEETS; i++) {
            rows[i] = new Row();
        }
    }

    // ---- 1 ground

    public int dig(int cell) {
        return isCell(cell) ? now.toDig(cell) : BAD;
    }

    public int fill(int cell) {
        return isCell(cell) ? now.toFill(cell) : BAD;
    }

    public int roof(int cell) {
        return isCell(cell) ? now.toRoof(cell) : BAD;
    }

    public int undo() {
        return now.takeBack();
    }

    public int own(int cell, int owner) {
        if (!isCell(cell) || owner < 0 || owner > NOBODY) {
            return BAD;
        }
        int was = now.owner[cell];
        now.owner[cell] = owner;
        return was;
    }

    public int rate(int v) {
        if (v < 0 || v > MOST_RATE) {
            return BAD;
        }
        int was = now.rate;
        now.rate = v;
        return was;
    }

    public int told(int cell, int what) {
        if (!isCell(cell)) {
            return BAD;
        }
        switch (what) {
            case 0:
                return now.depth[cell];
            case 1:
                return Plane.has(now.roofed, cell) ? 1 : 0;
            case 2:
                return now.owner[cell];
            case 3:
                return Plane.has(now.open, cell) ? Plane.least(now.holeAt(cell)) : NONE;
            default:
                return BAD;
        }
    }

    public int type(int letter) {
        if (letter < ' ' || letter > '~') {
            return BAD;
        }
        return tape.add((char) letter);
    }

    public int ground() {
        int fault = tape.readGround();
        tape.wipe();
        if (fault != FITS) {
            return fault;
        }
        now.become(tape.read, tape.roofed);
        return Plane.holesOf(now.open);
    }

    public int owners() {
        int fault = tape.readOwners();
        tape.wipe();
        if (fault != FITS) {
            return fault;
        }
        System.arraycopy(tape.read, 0, now.owner, 0, LAND);
        return LAND - Long.bitCount(now.landOf(NOBODY));
    }

    public int day() {
        int fault = tape.readDay();
        tape.wipe();
        if (fault != FITS) {
            return fault;
        }
        int done = 0;
        while (done < tape.repairs && now.repaired(tape.read[done])) {
            done++;
        }
        return done;
    }

    public int count(int what) {
        switch (what) {
            case 0:
                return Plane.holesOf(now.open);
            case 1:
                return Long.bitCount(now.open);
            case 2:
                return now.taxOfAll(now.open, now.nines);
            case 3:
                return now.known;
            case 4:
                return now.rate;
            case 5:
                return Long.bitCount(now.roofed);
            case 6:
                return now.depths();
            default:
                return BAD;
        }
    }

    // ---- 2 holes, told by a cell of theirs

    public int hole(int cell, int what) {
        if (!isCell(cell) || what < 0 || what > 7) {
            return BAD;
        }
        long hole = now.holeAt(cell);
        if (hole == 0) {
            return NOT;
        }
        switch (what) {
            case 0:
                return Long.bitCount(hole);
            case 1:
                return now.kindOf(hole, now.nines);
            case 2:
                return now.taxOf(hole, now.nines);
            case 3:
                return Plane.fenceOf(hole);
            case 4:
                return Long.bitCount(Plane.rimOf(hole));
            case 5:
                return now.ownerOf(hole);
            case 6:
                return Plane.nestedIn(hole, now.open);
            default:
                return Plane.broadestIn(hole);
        }
    }

    public long cells(int cell, int what) {
        if (!isCell(cell) || what < 0 || what > 2) {
            return BAD;
        }
        long hole = now.holeAt(cell);
        if (hole == 0) {
            return NOT;
        }
        if (what == 0) {
            return hole;
        }
        return what == 1 ? Plane.rimOf(hole) : Plane.withinOf(hole);
    }

    public int part(int cell, int owner) {
        if (!isCell(cell) || !isOwner(owner)) {
            return BAD;
        }
        long hole = now.holeAt(cell);
        return hole == 0 ? NOT : now.partOf(hole, owner);
    }

    public int pays(int owner) {
        return isOwner(owner) ? now.partOfAll(owner) : BAD;
    }

    public int worth(int owner) {
        if (!isOwner(owner)) {
            return WORTH_BAD;
        }
        long without = now.open & ~now.landOf(owner);
        return now.taxOfAll(now.open, now.nines) - now.taxOfAll(without, now.nines);
    }

    public int filled(int tax, int i) {
        if (tax < 0 || tax > MOST_TAX || i < -1 || i > 1) {
            return BAD;
        }
        return pick(now.leastFilled(tax), i);
    }

    public int split(int cell, int i) {
        if (!isCell(cell) || i < -1 || i > 1) {
            return BAD;
        }
        long hole = now.holeAt(cell);
        return hole == 0 ? NOT : pick(Plane.leastSplit(hole), i);
    }

    public int dug(int a, int b, int i) {
        if (!isCell(a) || !isCell(b) || i < -1 || i >= MOST_DUG) {
            return BAD;
        }
        long one = now.holeAt(a);
        long other = now.holeAt(b);
        if (one == 0 || other == 0 || one == other) {
            return NOT;
        }
        return pick(Plane.leastDug(one, other, now.open), i);
    }

    public int loophole() {
        int best = NONE;
        int least = now.taxOfAll(now.open, now.nines);
        for (int c = 0; c < LAND; c++) {
            if (Plane.has(now.open, c)) {
                continue;
            }
            int tax = now.taxOfAll(now.open | 1L << c, now.nines);
            if (tax < least) {
                least = tax;
                best = c;
            }
        }
        return best;
    }

    public int roofs(int cell) {
        if (!isCell(cell)) {
            return BAD;
        }
        long hole = now.holeAt(cell);
        return hole == 0 ? NOT : Long.bitCount(hole & ~now.roofed);
    }

    public int round(int cell, int i) {
        if (!isCell(cell) || i < -1 || i >= Mole.MOST) {
            return BAD;
        }
        int holes = Plane.holesOf(now.open);
        if (holes > Mole.MOST) {
            return FULL;
        }
        if (i >= holes) {
            return NONE;
        }
        mole.walk(cell, now.open);
        return i < 0 ? mole.fewest : mole.best[i];
    }

    public int border(int what) {
        if (what < 0 || what > 1) {
            return BAD;
        }
        if (now.open == 0) {
            return NONE;
        }
        long hole = Plane.mostCells(now.open);
        return what == 0 ? Plane.least(hole) : Plane.fenceOf(hole);
    }

    public int cut(int cell) {
        if (!isCell(cell)) {
            return BAD;
        }
        long hole = now.holeAt(cell);
        return hole == 0 ? NOT : Plane.leastCut(hole, now.open);
    }

    // ---- 3 books, lots

    public long books(long set, int holes, int tax, int what) {
        if ((set & ~Plane.ALL) != 0 || Long.bitCount(set) > MOST_UNKNOWN) {
            return BAD;
        }
        if (holes < -1 || holes > LAND || tax < -1 || tax > MOST_TAX || what < 0 || what > 3) {
            return BAD;
        }
        int ways = 0;
        long first = 0;
        long sure = set;
        long some = 0;
        long way = 0;
        for (int i = 0; i < 1 << MOST_UNKNOWN; i++) {
            if (now.fits(set, way, holes, tax)) {
                first = ways == 0 ? way : first;
                ways++;
                sure &= way;
                some |= way;
            }
            // the next greater number whose bits all are bits of the set; 0 behind the last
            way = (way - set) & set;
            if (way == 0) {
                break;
            }
        }
        if (what == 0) {
            return ways;
        }
        if (ways == 0) {
            return NONE;
        }
        if (what == 1) {
            return first;
        }
        return what == 2 ? sure : set & ~some;
    }

    public int lots(int n) {
        if (n < 1 || n > MOST_YEARS) {
            return BAD;
        }
        int answer = 0;
        for (int year = 0; year < n; year++) {
            answer += now.yearByLot();
        }
        now.forget();
        return answer;
    }

    public int seed(int v) {
        if (v < 0) {
            return BAD;
        }
        int was = now.draw;
        now.draw = v;
        return was;
    }

    public int image() {
        kept.takeAll(now);
        hasImage = true;
        return 1;
    }

    public int restore() {
        if (!hasImage) {
            return NONE;
        }
        now.takeAll(kept);
        return 1;
    }

    // ---- 4 sheets

    public int lay(int cell, int sheet, int lane, int from, int n) {
        if (!isCell(cell) || n < 1 || n > LAND - cell) {
            return BAD;
        }
        int refused = refusal(sheet, lane, from, n);
        if (refused != FITS) {
            return refused;
        }
        Row row = rows[sheet];
        if (!row.areDepths(from, n)) {
            return NOT;
        }
        for (int k = 0; k < n; k++) {
            now.put(cell + k, (int) row.items[from + k]);
        }
        now.forget();
        return n;
    }

    public int film(int sheet, int lane, int from) {
        int holes = Plane.holesOf(now.open);
        int refused = refusal(sheet, lane, from, holes);
        if (refused != FITS) {
            return refused;
        }
        long rest = now.open;
        for (int k = 0; k < holes; k++) {
            long hole = Plane.firstHole(rest);
            rows[sheet].put(from + k, now.taxOf(hole, now.nines));
            rest &= ~hole;
        }
        return holes;
    }

    public int miscounted(int sheet, int lane, int from, int n) {
        if (n < 1 || n > MOST_COUNTED) {
            return BAD;
        }
        int refused = refusal(sheet, lane, from, 2 * n);
        if (refused != FITS) {
            return refused;
        }
        long[] items = rows[sheet].items;
        for (int k = 0; k < n; k++) {
            int at = from + 2 * k;
            if (!isRight(items[at], items[at + 1])) {
                return k;
            }
        }
        return NONE;
    }

    public int sheet(int sheet, int lane, int n) {
        if (!isSheet(sheet) || !isLane(lane) || n > LAND) {
            return BAD;
        }
        if (n < 0) {
            return SIZE;
        }
        rows[sheet].begin(lane, n);
        return n;
    }

    public int drop(int sheet) {
        if (!isSheet(sheet)) {
            return BAD;
        }
        Row row = rows[sheet];
        if (!row.isThere) {
            return NULL;
        }
        row.isThere = false;
        return row.length;
    }

    public int item(int sheet, int lane, int i, long v) {
        int refused = refusal(sheet, lane, i, 1);
        if (refused != FITS) {
            return refused;
        }
        rows[sheet].put(i, v);
        return 1;
    }

    public int copy(int from, int i, int to, int j, int n) {
        if (!isSheet(from) || !isSheet(to)) {
            return BAD;
        }
        Row source = rows[from];
        Row target = rows[to];
        if (!source.isThere || !target.isThere) {
            return NULL;
        }
        if (source.lane != target.lane) {
            return CAST;
        }
        if (!source.spans(i, n) || !target.spans(j, n)) {
            return INDEX;
        }
        System.arraycopy(source.items, i, target.items, j, n);
        return n;
    }

    private static boolean isCell(int cell) {
        return cell >= 0 && cell < LAND;
    }

    private static boolean isOwner(int owner) {
        return owner >= 0 && owner < NOBODY;
    }

    private static boolean isSheet(int sheet) {
        return sheet >= 0 && sheet < SHEETS;
    }

    private static boolean isLane(int lane) {
        return lane >= 0 && lane < LANES;
    }

    /** FITS, or why n items of a SHEET from one on can't be taken as a row of a LANE. */
    private int refusal(int sheet, int lane, int from, int n) {
        if (!isSheet(sheet) || !isLane(lane)) {
            return BAD;
        }
        Row row = rows[sheet];
        if (!row.isThere) {
            return NULL;
        }
        if (row.lane != lane) {
            return CAST;
        }
        return row.spans(from, n) ? FITS : INDEX;
    }

    private boolean isRight(long cell, long counted) {
        if (cell < 0 || cell >= LAND) {
            return false;
        }
        long hole = now.holeAt((int) cell);
        return hole != 0 && Long.bitCount(hole) == counted;
    }

    /** How many CELLS a set has (-1), or its i-th. */
    private static int pick(long set, int i) {
        if (set == NO_SET) {
            return NONE;
        }
        if (i < 0) {
            return Long.bitCount(set);
        }
        long rest = set;
        for (int k = 0; k < i; k++) {
            rest &= rest - 1;
        }
        return rest == 0 ? NONE : Plane.least(rest);
    }

    /** Sets of CELLS, and what follows from their places alone. */
    private static final class Plane {
        private static final long ALL = (1L << LAND) - 1;
        private static final long TOP = 0x3FL;
        private static final long BOTTOM = TOP << 30;
        private static final long LEFT = 0x41041041L;
        private static final long RIGHT = LEFT << 5;
        private static final long EDGE = TOP | BOTTOM | LEFT | RIGHT;

        private static boolean has(long set, int cell) {
            return (set >>> cell & 1) != 0;
        }

        private static int least(long set) {
            return Long.bitCount((set & -set) - 1);
        }

        private static long beside(long set) {
            long upDown = set << SIDE | set >>> SIDE;
            return (upDown | (set & ~RIGHT) << 1 | (set & ~LEFT) >>> 1) & ALL;
        }

        /** All that hangs together with the start by CELLS of a set. */
        private static long spread(long start, long through) {
            long reached = start & through;
            for (int step = 0; step < LAND; step++) {
                long more = (reached | beside(reached)) & through;
                if (more == reached) {
                    break;
                }
                reached = more;
            }
            return reached;
        }

        private static long firstHole(long open) {
            return spread(open & -open, open);
        }

        private static int holesOf(long open) {
            int holes = 0;
            for (long rest = open; rest != 0 && holes < LAND; holes++) {
                rest &= ~firstHole(rest);
            }
            return holes;
        }

        private static long rimOf(long hole) {
            return beside(hole) & ~hole;
        }

        private static int fenceOf(long hole) {
            int upDown = Long.bitCount(hole & hole >>> SIDE);
            int aside = Long.bitCount(hole & (hole & ~LEFT) >>> 1);
            return 4 * Long.bitCount(hole) - 2 * (upDown + aside);
        }

        private static long withinOf(long hole) {
            long others = ALL & ~hole;
            return others & ~spread(EDGE, others);
        }

        private static int nestedIn(long hole, long open) {
            int nested = 0;
            long rest = open;
            for (int i = 0; i < LAND && rest != 0; i++) {
                long other = firstHole(rest);
                if ((withinOf(other) & hole) != 0) {
                    nested++;
                }
                rest &= ~other;
            }
            return nested;
        }

        private static int broadestIn(long hole) {
            int broad = 0;
            long corners = hole;
            while (corners != 0 && broad < SIDE) {
                broad++;
                // four squares, each one CELL aside, are together one that is one broader
                long both = corners & (corners & ~LEFT) >>> 1;
                corners = both & both >>> SIDE;
            }
            return broad;
        }

        private static long mostCells(long open) {
            long most = 0;
            long rest = open;
            for (int i = 0; i < LAND && rest != 0; i++) {
                long hole = firstHole(rest);
                if (Long.bitCount(hole) > Long.bitCount(most)) {
                    most = hole;
                }
                rest &= ~hole;
            }
            return most;
        }

        private static int leastCut(long hole, long open) {
            int broad = broadestIn(hole);
            long rim = rimOf(hole);
            for (int c = 0; c < LAND; c++) {
                if (has(rim, c) && broadestIn(spread(hole, open | 1L << c)) > broad) {
                    return c;
                }
            }
            return NONE;
        }

        private static boolean isInPieces(long set) {
            return set != 0 && firstHole(set) != set;
        }

        private static long leastSplit(long hole) {
            for (int a = 0; a < LAND; a++) {
                if (has(hole, a) && isInPieces(hole & ~(1L << a))) {
                    return 1L << a;
                }
            }
            for (int a = 0; a < LAND; a++) {
                for (int b = a + 1; has(hole, a) && b < LAND; b++) {
                    long two = 1L << a | 1L << b;
                    if (has(hole, b) && isInPieces(hole & ~two)) {
                        return two;
                    }
                }
            }
            return NO_SET;
        }

        /** How many CELLS of a set must be open, too, so that one comes to another; above LAND: it can't. */
        private static int gapBetween(long one, long other, long open, long usable) {
            long reached = spread(one, open);
            for (int n = 0; n <= LAND; n++) {
                if ((reached & other) != 0) {
                    return n;
                }
                long wider = reached | beside(reached) & usable;
                reached = spread(wider, open | wider);
            }
            return LAND + 1;
        }

        private static long leastDug(long one, long other, long open) {
            long chosen = 0;
            long usable = ALL & ~open;
            int left = gapBetween(one, other, open, usable);
            for (int c = 0; c < LAND && left > 0; c++) {
                // what brings both nearer is on a shortest way: taken as they rise, they are the first row
                long wider = open | chosen | 1L << c;
                if (gapBetween(one, other, wider, usable) < left) {
                    chosen |= 1L << c;
                    left--;
                }
            }
            return chosen;
        }
    }

    /** All that an IMAGE keeps. */
    private static final class Ground {
        private static final int PIT = 0, GAP = 1, SHAFT = 2, PASS = 3, ABSENCE = 4;
        private static final int CHEAP_CELLS = 3;
        private static final int SHAFT_MORE = 10;
        private static final int LESS_UNDER_ROOF = 3;
        private static final int MOST_KNOWN = 10;
        private static final int DEPTHS = DEEPEST + 1;

        private final int[] depth = new int[LAND];
        private final int[] owner = new int[LAND];
        private long open;
        private long nines;
        private long roofed;
        private int rate = 2;
        private int draw = 1;
        private final int[] ahead = new int[MOST_KNOWN];
        private int known;

        private Ground() {
            for (int c = 0; c < LAND; c++) {
                owner[c] = NOBODY;
            }
        }

        private void takeAll(Ground other) {
            System.arraycopy(other.depth, 0, depth, 0, LAND);
            System.arraycopy(other.owner, 0, owner, 0, LAND);
            open = other.open;
            nines = other.nines;
            roofed = other.roofed;
            rate = other.rate;
            draw = other.draw;
            System.arraycopy(other.ahead, 0, ahead, 0, MOST_KNOWN);
            known = other.known;
        }

        /** A ROOF never stays over DEPTH 0. */
        private void put(int cell, int newDepth) {
            long bit = 1L << cell;
            depth[cell] = newDepth;
            open = newDepth > 0 ? open | bit : open & ~bit;
            nines = newDepth == DEEPEST ? nines | bit : nines & ~bit;
            roofed = newDepth > 0 ? roofed : roofed & ~bit;
        }

        private void become(int[] depths, long roofs) {
            for (int c = 0; c < LAND && c < depths.length; c++) {
                put(c, depths[c]);
            }
            roofed = roofs;
            forget();
        }

        private int toDig(int cell) {
            if (depth[cell] >= DEEPEST) {
                return FULL;
            }
            remember(cell);
            put(cell, depth[cell] + 1);
            return depth[cell];
        }

        private int toFill(int cell) {
            int was = depth[cell];
            if (was == 0) {
                return NOT;
            }
            remember(cell);
            put(cell, 0);
            return was;
        }

        private int toRoof(int cell) {
            if (depth[cell] == 0) {
                return NOT;
            }
            remember(cell);
            roofed ^= 1L << cell;
            return Plane.has(roofed, cell) ? 1 : 0;
        }

        /** One of a DAY: LAND times what is done, and the CELL. */
        private boolean repaired(int repair) {
            int cell = repair % LAND;
            switch (repair / LAND) {
                case DIGS:
                    return toDig(cell) >= 0;
                case FILLS:
                    return toFill(cell) >= 0;
                default:
                    return toRoof(cell) >= 0;
            }
        }

        /** The CELL, its DEPTH and whether it has a ROOF go into one number. */
        private void remember(int cell) {
            if (known == MOST_KNOWN) {
                System.arraycopy(ahead, 1, ahead, 0, MOST_KNOWN - 1);
                known--;
            }
            ahead[known] = (cell * DEPTHS + depth[cell]) * 2 + (Plane.has(roofed, cell) ? 1 : 0);
            known++;
        }

        private void forget() {
            known = 0;
        }

        private int takeBack() {
            if (known == 0) {
                return NONE;
            }
            known--;
            int was = ahead[known];
            int cell = was / 2 / DEPTHS;
            put(cell, was / 2 % DEPTHS);
            roofed = was % 2 == 1 ? roofed | 1L << cell : roofed & ~(1L << cell);
            return known;
        }

        private int drawn() {
            draw = (draw * 1103515245 + 12345) & 0x7FFFFFFF;
            return draw / 65536;
        }

        /** 1: a CELL was dug, 100: one was filled, 0: nothing was done. */
        private int yearByLot() {
            int cell = drawn() % LAND;
            if (drawn() % 4 == 0) {
                return toFill(cell) >= 0 ? 100 : 0;
            }
            return toDig(cell) >= 0 ? 1 : 0;
        }

        private int depths() {
            int all = 0;
            for (int d : depth) {
                all += d;
            }
            return all;
        }

        /** 0 where nothing is dug. */
        private long holeAt(int cell) {
            return Plane.spread(1L << cell, open);
        }

        private int kindOf(long hole, long deepest) {
            if ((hole & ~roofed) == 0) {
                return ABSENCE;
            }
            boolean upDown = (hole & Plane.TOP) != 0 && (hole & Plane.BOTTOM) != 0;
            boolean across = (hole & Plane.LEFT) != 0 && (hole & Plane.RIGHT) != 0;
            if (upDown || across) {
                return PASS;
            }
            if ((hole & Plane.EDGE) != 0) {
                return GAP;
            }
            return (hole & deepest) != 0 ? SHAFT : PIT;
        }

        private int taxOf(long hole, long deepest) {
            int size = Long.bitCount(hole);
            int pit = rate * size + rate * Math.max(0, size - CHEAP_CELLS);
            switch (kindOf(hole, deepest)) {
                case GAP:
                    return pit / 2;
                case SHAFT:
                    return pit + SHAFT_MORE;
                case PASS:
                    return pit / 2 + Plane.fenceOf(hole);
                case ABSENCE:
                    return Math.max(0, pit + SHAFT_MORE - LESS_UNDER_ROOF * size);
                default:
                    return pit;
            }
        }

        private int taxOfAll(long dugCells, long deepest) {
            int tax = 0;
            long rest = dugCells;
            for (int i = 0; i < LAND && rest != 0; i++) {
                long hole = Plane.firstHole(rest);
                tax += taxOf(hole, deepest);
                rest &= ~hole;
            }
            return tax;
        }

        private long landOf(int who) {
            long land = 0;
            for (int c = 0; c < LAND; c++) {
                if (owner[c] == who) {
                    land |= 1L << c;
                }
            }
            return land;
        }

        private int ownerOf(long hole) {
            long rim = Plane.rimOf(hole);
            int best = NOBODY;
            int most = 0;
            for (int who = 0; who < NOBODY; who++) {
                int his = Long.bitCount(rim & landOf(who));
                if (his > most) {
                    most = his;
                    best = who;
                }
            }
            return best;
        }

        private int partOf(long hole, int who) {
            long rim = Plane.rimOf(hole);
            int owned = Long.bitCount(rim & ~landOf(NOBODY));
            if (owned == 0) {
                return 0;
            }
            return taxOf(hole, nines) * Long.bitCount(rim & landOf(who)) / owned;
        }

        private int partOfAll(int who) {
            int parts = 0;
            long rest = open;
            for (int i = 0; i < LAND && rest != 0; i++) {
                long hole = Plane.firstHole(rest);
                parts += partOf(hole, who);
                rest &= ~hole;
            }
            return parts;
        }

        private long leastFilled(int most) {
            if (taxOfAll(open, nines) <= most) {
                return 0;
            }
            for (int a = 0; a < LAND; a++) {
                if (Plane.has(open, a) && taxOfAll(open & ~(1L << a), nines) <= most) {
                    return 1L << a;
                }
            }
            for (int a = 0; a < LAND; a++) {
                for (int b = a + 1; Plane.has(open, a) && b < LAND; b++) {
                    long two = 1L << a | 1L << b;
                    if (Plane.has(open, b) && taxOfAll(open & ~two, nines) <= most) {
                        return two;
                    }
                }
            }
            return NO_SET;
        }

        /** Whether the BOOKS are right, if of their set just the CELLS of a way have DEPTH 1. */
        private boolean fits(long set, long way, int holes, int tax) {
            long dugCells = open & ~set | way;
            if (holes >= 0 && Plane.holesOf(dugCells) != holes) {
                return false;
            }
            return tax < 0 || taxOfAll(dugCells, nines & ~set) == tax;
        }
    }

    /** The letters that were typed, and what they tell. */
    private static final class Tape {
        private static final int MOST = 160;
        private static final int FAULT = -20;
        // 40 REPAIRS with a ; behind each fill the tape: a last one is still looked for then
        private static final int MOST_REPAIRS = 41;

        private final char[] letters = new char[MOST];
        private int length;
        private int place;
        private final int[] read = new int[MOST_REPAIRS];
        private long roofed;
        private int repairs;

        private int add(char letter) {
            if (length >= MOST) {
                return FULL;
            }
            letters[length] = letter;
            length++;
            return length;
        }

        private void wipe() {
            length = 0;
        }

        private void passBlanks() {
            while (place < length && letters[place] == ' ') {
                place++;
            }
        }

        private boolean isNext(char letter) {
            passBlanks();
            if (place >= length || letters[place] != letter) {
                return false;
            }
            place++;
            return true;
        }

        /** A figure from 0 on; -1: none stands there. */
        private int nextFigure(char greatest) {
            passBlanks();
            if (place >= length || letters[place] < '0' || letters[place] > greatest) {
                return -1;
            }
            int figure = letters[place] - '0';
            place++;
            return figure;
        }

        private int fault() {
            return FAULT - place;
        }

        private int faultBehind() {
            passBlanks();
            return place < length ? fault() : FITS;
        }

        private int readGround() {
            place = 0;
            roofed = 0;
            for (int c = 0; c < LAND; c++) {
                if (c > 0 && c % SIDE == 0 && !isNext('/')) {
                    return fault();
                }
                int figure = nextFigure('9');
                if (figure < 0) {
                    return fault();
                }
                read[c] = figure;
                if (figure > 0 && isNext('^')) {
                    roofed |= 1L << c;
                }
            }
            return faultBehind();
        }

        private int readOwners() {
            place = 0;
            for (int c = 0; c < LAND; c++) {
                if (c > 0 && c % SIDE == 0) {
                    // it may stand there or not: both are right
                    isNext('/');
                }
                int who = isNext('-') ? NOBODY : nextFigure('3');
                if (who < 0) {
                    return fault();
                }
                read[c] = who;
            }
            return faultBehind();
        }

        private int readDay() {
            place = 0;
            repairs = 0;
            for (int n = 0; n < MOST_REPAIRS; n++) {
                int repair = nextRepair();
                if (repair < 0) {
                    return fault();
                }
                read[n] = repair;
                repairs++;
                if (!isNext(';')) {
                    break;
                }
            }
            return faultBehind();
        }

        /** LAND times what is to be done, and the CELL; -1: none stands there. */
        private int nextRepair() {
            int kind = isNext('d') ? DIGS : isNext('f') ? FILLS : isNext('r') ? ROOFS : -1;
            if (kind < 0) {
                return -1;
            }
            int row = nextFigure('5');
            if (row < 0) {
                return -1;
            }
            int column = nextFigure('5');
            return column < 0 ? -1 : kind * LAND + row * SIDE + column;
        }
    }

    /** What a SHEET may hold; made once and used again, since all calls of a run share one room. */
    private static final class Row {
        private final long[] items = new long[LAND];
        private boolean isThere;
        private int lane;
        private int length;

        private void begin(int newLane, int newLength) {
            isThere = true;
            lane = newLane;
            length = newLength;
            for (int i = 0; i < LAND; i++) {
                items[i] = 0;
            }
        }

        private boolean spans(int from, int n) {
            return from >= 0 && n >= 0 && n <= length && from <= length - n;
        }

        private void put(int i, long v) {
            if (!spans(i, 1)) {
                return;
            }
            switch (lane) {
                case 0:
                    items[i] = (byte) v;
                    break;
                case 1:
                    items[i] = (short) v;
                    break;
                case 2:
                    items[i] = (int) v;
                    break;
                default:
                    items[i] = v;
                    break;
            }
        }

        private boolean areDepths(int from, int n) {
            for (int k = 0; k < n; k++) {
                if (items[from + k] < 0 || items[from + k] > DEEPEST) {
                    return false;
                }
            }
            return true;
        }
    }

    /** Looks for its ROUND through all rows of HOLES, leaving those that can't be better any more. */
    private static final class Mole {
        private static final int MOST = 8;
        private static final int TOO_MANY = 1000;

        private final long[] holes = new long[MOST];
        private final int[] apart = new int[MOST];
        private final int[] nearest = new int[MOST * LAND];
        private final int[] row = new int[MOST];
        private final int[] best = new int[MOST];
        private int size;
        private int fewest;

        private void walk(int cell, long open) {
            size = 0;
            long rest = open;
            while (rest != 0 && size < MOST) {
                long hole = Plane.firstHole(rest);
                holes[size] = hole;
                size++;
                rest &= ~hole;
            }
            int all = 0;
            for (int h = 0; h < size; h++) {
                measure(h, open);
                all += apart[h];
            }
            fewest = TOO_MANY;
            seek(cell, 0, 0, all, 0);
        }

        /** The nearest CELL of a HOLE from each CELL, and how far the other HOLES are at least. */
        private void measure(int h, long open) {
            apart[h] = TOO_MANY;
            for (int c = 0; c < LAND; c++) {
                int cell = nearestOf(holes[h], c);
                nearest[h * LAND + c] = cell;
                if (Plane.has(open & ~holes[h], c)) {
                    apart[h] = Math.min(apart[h], steps(c, cell));
                }
            }
        }

        private static int nearestOf(long hole, int from) {
            int best = from;
            int least = TOO_MANY;
            for (int c = 0; c < LAND; c++) {
                if (Plane.has(hole, c) && steps(from, c) < least) {
                    least = steps(from, c);
                    best = c;
                }
            }
            return best;
        }

        private static int steps(int from, int to) {
            return Math.abs(from / SIDE - to / SIDE) + Math.abs(from % SIDE - to % SIDE);
        }

        /** Rows are tried from the first on, so of like ones the first is kept. */
        private void seek(int cell, int been, int steps, int ahead, int level) {
            if (level > 0 && steps + ahead >= fewest) {
                return;
            }
            if (level >= size) {
                fewest = steps;
                for (int k = 0; k < size; k++) {
                    best[k] = Plane.least(holes[row[k]]);
                }
                return;
            }
            for (int h = 0; h < size; h++) {
                if ((been >> h & 1) != 0) {
                    continue;
                }
                row[level] = h;
                int next = nearest[h * LAND + cell];
                seek(next, been | 1 << h, steps + steps(cell, next), ahead - apart[h], level + 1);
            }
        }
    }
}
