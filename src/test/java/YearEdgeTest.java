/** The document's part 3 at its edges: what is known of repairs, books without a gap or a way, the draw's end, images. */
public final class YearEdgeTest {
    private static final int NOT = -2, FULL = -3, NONE = -4, NULL = -11;
    private static final String WHOLE = "111111/111111/111111/111111/111111/111111";
    private static final String EMPTY = "000000/000000/000000/000000/000000/000000";
    private static final int MOST = Integer.MAX_VALUE;
    private static final Check CHECK = new Check();

    public static void main(String[] args) {
        knownByNumber();
        undoneAtTheEnds();
        refusedIsNotKnown();
        whatLeavesNothing();
        whatIsNoRepair();
        booksBySize();
        booksTold();
        booksWithoutWay();
        booksOfDepths();
        draws();
        yearsThatDoNothing();
        yearsByNumber();
        images();
        imagesOfKnown();
        CHECK.end("YearEdgeTest");
    }

    private static void is(String what, long got, long due) {
        CHECK.is(what, got, due);
    }

    // ---- 5 "10 are known, older ones lost"

    private static void knownByNumber() {
        for (int n = 0; n <= 36; n++) {
            HoleCounty x = new HoleCounty();
            for (int c = 0; c < n; c++) {
                x.dig(c);
                is("13 known", x.count(3), Math.min(c + 1, 10));
            }
            for (int left = Math.min(n, 10) - 1; left >= 0; left--) {
                is("5 how many more may be", x.undo(), left);
                is("13 how many may be", x.count(3), left);
            }
            is("5 NONE: none is known", x.undo(), NONE);
            is("5 NONE again", x.undo(), NONE);
            is("5 older ones are lost", x.cells(0, 0), n > 10 ? (1L << n - 10) - 1 : NOT);
            x.dig(35);
            is("5 one is known again", x.count(3), 1);
        }
    }

    /** "the latest of these is as ahead of it": depth 0, depth 9, with and without a roof. */
    private static void undoneAtTheEnds() {
        for (int c : new int[] {0, 14, 35}) {
            for (int d = 1; d <= 9; d++) {
                for (int roof = 0; roof < 2; roof++) {
                    HoleCounty x = deep(c, d, roof);
                    x.fill(c);
                    undone(x, c, d, roof);
                    x.roof(c);
                    undone(x, c, d, roof);
                    is("2 DEPTH then", x.dig(c), d == 9 ? FULL : d + 1);
                    if (d < 9) {
                        undone(x, c, d, roof);
                    }
                    x.fill(c);
                    x.dig(c);
                    x.undo();
                    is("5 a dug CELL is filled again", x.told(c, 0) + x.told(c, 1), 0);
                    undone(x, c, d, roof);
                }
            }
        }
    }

    private static HoleCounty deep(int c, int d, int roof) {
        HoleCounty x = new HoleCounty();
        for (int k = 0; k < d; k++) {
            x.dig(c);
        }
        if (roof == 1) {
            x.roof(c);
        }
        x.sheet(0, 0, 1);
        x.item(0, 0, 0, 0);
        // laying a CELL far off leaves nothing to be undone
        x.lay(c == 14 ? 35 : 14, 0, 0, 0, 1);
        return x;
    }

    private static void undone(HoleCounty x, int c, int d, int roof) {
        is("5 the last one known", x.undo(), 0);
        is("5 DEPTH as ahead of it", x.told(c, 0), d);
        is("5 ROOF as ahead of it", x.told(c, 1), roof);
        is("5 a hole as ahead of it", x.told(c, 3), c);
    }

    private static void refusedIsNotKnown() {
        HoleCounty x = Check.county("900000/000000/000000/000000/000000/000000");
        is("2 FULL", x.dig(0), FULL);
        is("3 NOT", x.fill(1), NOT);
        is("4 NOT", x.roof(1), NOT);
        x.dig(-1);
        x.fill(36);
        x.roof(36);
        is("5 NONE: what is refused is not known", x.undo(), NONE);
        Check.typed(x, "d00");
        is("12 refused at once", x.day(), 0);
        Check.typed(x, "d01;d00;d02");
        is("12 refused behind one", x.day(), 1);
        is("13 the one is known", x.count(3), 1);
        Check.typed(x, "d01;d");
        is("12 a FAULT", x.day(), -25);
        is("13 a FAULT is not known", x.count(3), 1);
        is("5 undone", x.undo() * 10 + x.told(1, 0), 0);
    }

    /** "a GROUND, LOTS leave nothing to be UNDONE", "nothing may be UNDONE then" (lay) */
    private static void whatLeavesNothing() {
        HoleCounty x = new HoleCounty();
        x.dig(7);
        Check.typed(x, EMPTY).ground();
        is("10 a GROUND", x.undo(), NONE);
        x.dig(7);
        is("28 n refused", x.lots(0), -1);
        is("28 leaves it known", x.count(3), 1);
        x.lots(1);
        is("28 LOTS", x.undo(), NONE);
        HoleCounty none = Check.county(WHOLE.replace('1', '9'));
        none.fill(0);
        none.undo();
        none.fill(0);
        none.seed(1);
        is("28 a year in which nothing is done", none.lots(1), 0);
        is("28 leaves nothing, either", none.undo(), NONE);
        x.dig(7);
        x.sheet(0, 0, 1);
        x.item(0, 0, 0, 10);
        is("32 NOT", x.lay(0, 0, 0, 0, 1), NOT);
        is("32 what is refused leaves it known", x.count(3), 1);
        x.item(0, 0, 0, 0);
        is("32 even what is so already", x.lay(0, 0, 0, 0, 1), 1);
        is("32 nothing may be UNDONE then", x.undo(), NONE);
    }

    private static void whatIsNoRepair() {
        HoleCounty x = new HoleCounty();
        x.dig(7);
        x.own(7, 1);
        x.rate(9);
        x.seed(5);
        Check.typed(x, "0000000000000000000000000000000000003").owners();
        Check.typed(x, "000000000000000000000000000000000000").owners();
        x.image();
        x.sheet(0, 0, 3);
        x.film(0, 0, 0);
        is("13 one REPAIR", x.count(3), 1);
        is("5 undone", x.undo(), 0);
        is("5 nothing else is", x.told(7, 2) * 100 + x.count(4), 9);
    }

    // ---- 27 "of a set of up to 6 CELLS"

    private static void booksBySize() {
        for (String ground : new String[] {EMPTY, WHOLE}) {
            for (int n = 0; n <= 6; n++) {
                HoleCounty x = Check.county(ground);
                for (int low = 0; low + n <= 36; low++) {
                    long set = (1L << n) - 1 << low;
                    is("27 ways of " + n, x.books(set, -1, -1, 0), 1L << n);
                    is("27 least of " + n, x.books(set, -1, -1, 1), 0);
                    is("27 sure of " + n, x.books(set, -1, -1, 2), 0);
                    is("27 free of " + n, x.books(set, -1, -1, 3), 0);
                }
            }
        }
        HoleCounty x = new HoleCounty();
        is("27 nothing unknown: one way", x.books(0, 0, 0, 0), 1);
        is("27 nothing unknown: the least set", x.books(0, 0, 0, 1), 0);
        is("27 nothing unknown: sure", x.books(0, 0, 0, 2), 0);
        is("27 nothing unknown: free", x.books(0, 0, 0, 3), 0);
    }

    /** "told are how many HOLES there are (or -1: not told), TAX of all (or -1)" */
    private static void booksTold() {
        HoleCounty x = new HoleCounty();
        long three = Check.set(0, 2, 35);
        int[] ways = {1, 3, 3, 1};
        for (int n = 0; n < 4; n++) {
            is("27 ways to " + n + " holes", x.books(three, n, -1, 0), ways[n]);
            is("27 ways to tax " + n, x.books(three, -1, n, 0), ways[n]);
            is("27 ways to both", x.books(three, n, n, 0), ways[n]);
            is("27 to one and not the other", x.books(three, n, n + 1, 0), 0);
            is("27 free in all of these ways", x.books(three, n, -1, 3), n == 0 ? three : 0);
            is("27 sure in all of these ways", x.books(three, n, -1, 2), n == 3 ? three : 0);
        }
        is("27 all of them: the least set", x.books(three, 3, -1, 1), three);
        is("27 all of them are sure", x.books(three, 3, -1, 2), three);
        is("27 and none is free", x.books(three, 3, -1, 3), 0);
        is("27 none of them is sure", x.books(three, 0, -1, 2), 0);
        is("27 and all are free", x.books(three, 0, -1, 3), three);
        is("27 the least set is that of the least number", x.books(three, 2, -1, 1), Check.set(0, 2));
        is("27 the least set of one", x.books(Check.set(34, 35), 1, -1, 1), 1L << 34);
        HoleCounty most = Check.county(WHOLE);
        most.rate(99);
        is("27 much tax", most.books(1L << 35, -1, most.count(2), 1), 1L << 35);
    }

    private static void booksWithoutWay() {
        HoleCounty x = Check.county("100000/000000/000000/000000/000000/000000");
        int[][] told = {{0, -1}, {36, -1}, {-1, 0}, {-1, 9999}, {36, 9999}, {1, 0}, {0, 1}};
        for (int[] t : told) {
            is("27 no way", x.books(Check.set(35), t[0], t[1], 0), 0);
            for (int what = 1; what < 4; what++) {
                is("27 NONE: there is no way", x.books(Check.set(35), t[0], t[1], what), NONE);
            }
        }
    }

    /** "DEPTH 0 (and no ROOF) or 1 (and the ROOF they have)": depth 9 is not what an unknown CELL has. */
    private static void booksOfDepths() {
        HoleCounty shaft = Check.county("000000/090000/000000/000000/000000/000000");
        is("27 as it is known: a SHAFT", shaft.books(0, 1, 12, 0), 1);
        is("27 unknown: a PIT", shaft.books(Check.set(7), 1, 2, 0), 1);
        is("27 unknown: no SHAFT", shaft.books(Check.set(7), 1, 12, 0), 0);
        HoleCounty beside = Check.county("000000/091000/000000/000000/000000/000000");
        is("27 others are as they are", beside.books(Check.set(8), 1, 14, 1), Check.set(8));
        HoleCounty roofed = Check.county("000000/09^0000/000000/000000/000000/000000");
        is("27 the ROOF they have", roofed.books(Check.set(7), 1, 9, 1), Check.set(7));
        is("27 no ROOF over DEPTH 0 beside it", roofed.books(Check.set(8), 1, 14, 1), Check.set(8));
        is("27 nothing is changed", roofed.told(7, 0) * 10 + roofed.told(7, 1), 91);
    }

    // ---- 28, 29 "the lowest 31 bits of itself times 1103515245 and 12345 more, and counts by 65536 (cut)"

    private static long next(long draw) {
        return (draw * 1103515245L + 12345L) % (1L << 31);
    }

    private static void draws() {
        int[] seeds = {0, 1, 2, 65535, 65536, 1 << 30, MOST - 1, MOST, 1103515245, 12345};
        for (int seed : seeds) {
            HoleCounty x = Check.county(WHOLE);
            is("29 what it was", x.seed(seed), 1);
            long first = next(seed);
            long second = next(first);
            int cell = (int) (first / 65536 % 36);
            boolean fills = second / 65536 % 4 == 0;
            is("28 a year from " + seed, x.lots(1), fills ? 100 : 1);
            is("28 its cell", x.told(cell, 0), fills ? 0 : 2);
            is("28 no other", x.count(6), fills ? 35 : 37);
            is("29 two draws", x.seed(0), second);
        }
        HoleCounty fresh = new HoleCounty();
        is("29 1 at first", fresh.seed(MOST), 1);
        is("29 the greatest", fresh.seed(0), MOST);
        is("29 BAD: below 0", fresh.seed(-1), -1);
        is("29 0 stays", fresh.seed(1), 0);
    }

    /** A draw whose year is at a given CELL, to fill it or to dig it. */
    private static int seedFor(int cell, boolean fills) {
        for (int seed = 0; seed < 100000; seed++) {
            long first = next(seed);
            if (first / 65536 % 36 == cell && next(first) / 65536 % 4 == 0 == fills) {
                return seed;
            }
        }
        throw new IllegalStateException("no such draw");
    }

    /** "filled (if its DEPTH is above 0), else dug (if it is below 9)" */
    private static void yearsThatDoNothing() {
        for (int c = 0; c < 36; c++) {
            for (int depth = 0; depth <= 9; depth++) {
                for (int fills = 0; fills < 2; fills++) {
                    year(c, depth, fills == 1);
                }
            }
        }
    }

    private static void year(int c, int depth, boolean fills) {
        HoleCounty x = new HoleCounty();
        for (int d = 0; d < depth; d++) {
            x.dig(c);
        }
        x.roof(c);
        int seed = seedFor(c, fills);
        x.seed(seed);
        String what = "28 depth " + depth + (fills ? " filled" : " dug");
        is(what, x.lots(1), fills ? depth > 0 ? 100 : 0 : depth < 9 ? 1 : 0);
        is(what + ", then", x.told(c, 0), fills ? 0 : Math.min(9, depth + 1));
        is(what + ", its ROOF", x.told(c, 1), !fills && depth > 0 ? 1 : 0);
        is(what + ", no other", x.count(6), x.told(c, 0));
        is(what + ", both are drawn", x.seed(0), next(next(seed)));
        is(what + ", nothing to be UNDONE", x.undo(), NONE);
    }

    /** "n years (1 .. 99)": as many as one year after the other. */
    private static void yearsByNumber() {
        for (int n = 1; n <= 99; n++) {
            HoleCounty once = Check.county("909090/090909/1^1^1^1^1^1^/000000/555555/000009");
            HoleCounty often = Check.county("909090/090909/1^1^1^1^1^1^/000000/555555/000009");
            once.seed(n);
            often.seed(n);
            int sum = 0;
            for (int year = 0; year < n; year++) {
                sum += often.lots(1);
            }
            is("28 " + n + " years", once.lots(n), sum);
            for (int c = 0; c < 36; c++) {
                is("28 cell " + c, once.told(c, 0) * 2 + once.told(c, 1), often.told(c, 0) * 2 + often.told(c, 1));
            }
            is("28 the draw behind them", once.seed(0), often.seed(0));
        }
    }

    // ---- 30, 31

    private static void images() {
        HoleCounty x = new HoleCounty();
        is("31 NONE: there is none", x.restore(), NONE);
        is("31 NONE again", x.restore(), NONE);
        is("30 of a new object", x.image(), 1);
        Check.typed(x, WHOLE.replace("1", "9^")).ground();
        Check.typed(x, "333333333333333333333333333333333333").owners();
        x.rate(99);
        x.seed(MOST);
        is("31 all is as it was then", x.restore(), 1);
        is("31 depths, roofs", x.count(6) + x.count(5), 0);
        is("31 owners", x.told(0, 2) + x.told(35, 2), 8);
        is("31 rate", x.count(4), 2);
        is("31 the draw", x.seed(3), 1);
        Check.typed(x, WHOLE.replace("1", "9^")).ground();
        Check.typed(x, "333333333333333333333333333333333333").owners();
        x.rate(99);
        x.seed(MOST);
        x.image();
        Check.typed(x, EMPTY).ground();
        Check.typed(x, "------------------------------------").owners();
        x.rate(0);
        x.seed(0);
        x.restore();
        is("31 all depths", x.count(6), 324);
        is("31 all roofs", x.count(5), 36);
        is("31 all owners", x.told(0, 2) + x.told(35, 2), 6);
        is("31 the greatest rate", x.count(4), 99);
        is("31 the greatest draw", x.seed(MOST), MOST);
        is("31 its kind", x.hole(0, 1), 4);
        shaftsOfImages();
        x.type('d');
        x.sheet(2, 2, 36);
        x.restore();
        is("30 but THE TAPE", x.type('0'), 2);
        is("30 but SHEETS", x.drop(2), 36);
        x.image();
        x.restore();
        is("31 a dropped SHEET does not come back", x.drop(2), NULL);
        is("31 what was typed stays", x.type('0') * 100 + x.day(), 300);
    }

    /** DEPTH 9 is of the image, too, and so is any less. */
    private static void shaftsOfImages() {
        for (int d = 8; d <= 9; d++) {
            HoleCounty x = Check.county(EMPTY.substring(0, 9) + d + EMPTY.substring(10));
            x.image();
            Check.typed(x, EMPTY.substring(0, 9) + (17 - d) + EMPTY.substring(10)).ground();
            is("14 ahead of it", x.hole(8, 1), d == 9 ? 0 : 2);
            x.restore();
            is("31 DEPTH " + d + " again", x.hole(8, 1) * 10 + x.told(8, 0), d == 9 ? 29 : 8);
        }
    }

    /** What may be UNDONE is of the image, too. */
    private static void imagesOfKnown() {
        HoleCounty x = new HoleCounty();
        for (int c = 0; c < 12; c++) {
            x.dig(c);
        }
        x.image();
        for (int n = 0; n < 10; n++) {
            x.undo();
        }
        is("5 none is left", x.undo(), NONE);
        x.dig(35);
        x.restore();
        is("31 ten are known again", x.count(3), 10);
        for (int left = 9; left >= 0; left--) {
            is("5 undone", x.undo(), left);
            is("5 undone", x.told(left + 2, 0), 0);
        }
        x.restore();
        x.lots(1);
        is("28 LOTS leave nothing", x.count(3), 0);
        x.restore();
        is("31 the image stays", x.count(3), 10);
        x.dig(20);
        x.undo();
        is("5 only nine older ones are left then", x.count(3), 9);
        Check.typed(x, EMPTY).ground();
        x.image();
        x.dig(1);
        x.restore();
        is("31 none is known again", x.undo(), NONE);
    }
}
