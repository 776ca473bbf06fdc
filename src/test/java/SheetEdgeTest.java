/** The document's part 4 at its edges: rows of no item, the first and the last item, the lanes' lowest bits, rows over themselves. */
public final class SheetEdgeTest {
    private static final int BAD = -1, NOT = -2, NONE = -4, NULL = -11, CAST = -12, INDEX = -13, SIZE = -14;
    private static final int[] BITS = {8, 16, 32, 64};
    private static final Check CHECK = new Check();

    public static void main(String[] args) {
        lengths();
        newRows();
        drops();
        lowestBits();
        itemsAtTheEnds();
        layByNumber();
        layOfDepths();
        layOverRoofs();
        films();
        filmOfNothing();
        filmBits();
        census();
        censusByNumber();
        censusOfNoCells();
        copiesByNumber();
        copiesOverThemselves();
        copiesAmongLanes();
        CHECK.end("SheetEdgeTest");
    }

    private static void is(String what, long got, long due) {
        CHECK.is(what, got, due);
    }

    private static HoleCounty row(int lane, long... items) {
        HoleCounty x = new HoleCounty();
        x.sheet(0, lane, items.length);
        for (int i = 0; i < items.length; i++) {
            x.item(0, lane, i, items[i]);
        }
        return x;
    }

    /** An item as a DEPTH of CELL 0; NOT if it is none. */
    private static int depthOf(HoleCounty x, int sheet, int lane, int i) {
        int laid = x.lay(0, sheet, lane, i, 1);
        return laid == 1 ? x.told(0, 0) : laid;
    }

    // ---- 35 "a row of a LANE .. of 0 to 36 items", "BAD: also n above 36; SIZE: n below 0"

    private static void lengths() {
        for (int sheet = 0; sheet < 4; sheet++) {
            for (int lane = 0; lane < 4; lane++) {
                for (int n = 0; n <= 36; n++) {
                    HoleCounty x = new HoleCounty();
                    is("35 n", x.sheet(sheet, lane, n), n);
                    is("37 the last item", x.item(sheet, lane, n - 1, 5), n == 0 ? INDEX : 1);
                    is("37 none behind it", x.item(sheet, lane, n, 5), INDEX);
                    is("36 how many items it had", x.drop(sheet), n);
                    is("36 NULL", x.drop(sheet), NULL);
                }
            }
        }
    }

    private static void newRows() {
        HoleCounty x = row(0, 1, 2, 3);
        is("35 SIZE", x.sheet(0, 3, -1), SIZE);
        is("35 BAD", x.sheet(0, 3, 37), BAD);
        is("35 the old row stays", depthOf(x, 0, 0, 2), 3);
        is("35 of the same length", x.sheet(0, 0, 3), 3);
        for (int i = 0; i < 3; i++) {
            is("35 a new row is of 0", depthOf(x, 0, 0, i), 0);
        }
        x.item(0, 0, 2, 7);
        x.sheet(0, 0, 2);
        is("35 a shorter one", x.item(0, 0, 2, 1), INDEX);
        x.sheet(0, 0, 3);
        is("35 a longer one has nothing of what was", depthOf(x, 0, 0, 2), 0);
        x.item(0, 0, 1, 7);
        x.drop(0);
        x.sheet(0, 0, 3);
        is("35 nor behind a drop", depthOf(x, 0, 0, 1), 0);
        x.sheet(0, 3, 3);
        is("35 of another lane", x.item(0, 0, 0, 1), CAST);
    }

    private static void drops() {
        HoleCounty x = new HoleCounty();
        for (int sheet = 0; sheet < 4; sheet++) {
            is("36 NULL at first", x.drop(sheet), NULL);
            x.sheet(sheet, sheet, 9 * sheet);
        }
        for (int sheet = 3; sheet >= 0; sheet--) {
            is("36 how many", x.drop(sheet), 9 * sheet);
            is("37 NULL then", x.item(sheet, sheet, 0, 1), NULL);
            is("32 NULL then", x.lay(0, sheet, sheet, 0, 1), NULL);
            is("33 NULL then", x.film(sheet, sheet, 0), NULL);
            is("34 NULL then", x.miscounted(sheet, sheet, 0, 1), NULL);
            is("38 NULL then", x.copy(sheet, 0, sheet, 0, 0), NULL);
        }
    }

    // ---- 37 "becomes v, its lowest bits"

    private static void lowestBits() {
        for (int lane = 0; lane < 4; lane++) {
            int bits = BITS[lane];
            for (int bit = 4; bit < 64; bit++) {
                HoleCounty x = row(lane, (1L << bit) + 9);
                is("37 lane " + lane + " and bit " + bit, depthOf(x, 0, lane, 0), bit < bits ? NOT : 9);
            }
            long sign = 1L << bits - 1;
            is("37 the sign of lane " + lane, depthOf(row(lane, sign), 0, lane, 0), NOT);
            is("37 -1 of lane " + lane, depthOf(row(lane, -1), 0, lane, 0), NOT);
            is("37 the least long of lane " + lane, depthOf(row(lane, Long.MIN_VALUE), 0, lane, 0), lane == 3 ? NOT : 0);
            is("37 the greatest of lane " + lane, depthOf(row(lane, Long.MAX_VALUE), 0, lane, 0), NOT);
            if (lane < 3) {
                is("37 below 0 it comes round in lane " + lane, depthOf(row(lane, 7 - (1L << bits)), 0, lane, 0), 7);
            }
        }
    }

    private static void itemsAtTheEnds() {
        for (int lane = 0; lane < 4; lane++) {
            HoleCounty x = new HoleCounty();
            x.sheet(lane, lane, 36);
            is("37 the first", x.item(lane, lane, 0, 4), 1);
            is("37 the last", x.item(lane, lane, 35, 6), 1);
            is("37 ahead of the first", x.item(lane, lane, -1, 9), INDEX);
            is("37 behind the last", x.item(lane, lane, 36, 9), INDEX);
            is("37 the first is held", depthOf(x, lane, lane, 0), 4);
            is("37 the last is held", depthOf(x, lane, lane, 35), 6);
            is("37 none between", depthOf(x, lane, lane, 1) + depthOf(x, lane, lane, 34), 0);
        }
    }

    // ---- 32 "n items (1 .. 36; 0 .. 9)", "BAD: also beyond CELL 35", "NOT: one is not as told"

    private static void layByNumber() {
        for (int cell = 0; cell < 36; cell++) {
            for (int n = 1; n <= 36; n++) {
                HoleCounty x = new HoleCounty();
                x.sheet(1, 1, n);
                for (int i = 0; i < n; i++) {
                    x.item(1, 1, i, 1 + i % 9);
                }
                boolean beyond = cell + n > 36;
                is("32 " + n + " from CELL " + cell, x.lay(cell, 1, 1, 0, n), beyond ? BAD : n);
                is("32 CELLS", x.count(1), beyond ? 0 : n);
                if (!beyond) {
                    is("32 the first", x.told(cell, 0), 1);
                    is("32 the last", x.told(cell + n - 1, 0), 1 + (n - 1) % 9);
                }
            }
        }
    }

    private static void layOfDepths() {
        for (int v = -130; v <= 130; v++) {
            for (int lane = 1; lane < 4; lane++) {
                is("32 an item of " + v, depthOf(row(lane, v), 0, lane, 0), v >= 0 && v <= 9 ? v : NOT);
            }
        }
        for (int at = 0; at < 4; at++) {
            for (int v : new int[] {-1, 10}) {
                HoleCounty x = row(2, 1, 1, 1, 1);
                x.dig(0);
                x.item(0, 2, at, v);
                is("32 NOT: item " + at, x.lay(0, 0, 2, 0, 4), NOT);
                is("32 none is laid", x.count(6), 1);
                is("32 one is known still", x.count(3), 1);
                is("32 those ahead of it may be laid", at == 0 ? 0 : x.lay(0, 0, 2, 0, at), at);
            }
        }
    }

    /** "a ROOF over DEPTH 0 goes" */
    private static void layOverRoofs() {
        for (int v = 0; v <= 9; v++) {
            HoleCounty x = Check.county("5^5^5^000/000000/000000/000000/000000/000005^");
            x.sheet(0, 0, 1);
            x.item(0, 0, 0, v);
            is("32 laid", x.lay(1, 0, 0, 0, 1), 1);
            is("32 the ROOF", x.told(1, 1), v == 0 ? 0 : 1);
            is("32 the others' ROOFS stay", x.told(0, 1) + x.told(2, 1) + x.told(35, 1), 3);
            is("32 HOLES", x.count(0), v == 0 ? 3 : 2);
            is("32 kind", x.hole(0, 1), 4);
        }
        HoleCounty nine = new HoleCounty();
        nine.sheet(0, 0, 1);
        nine.item(0, 0, 0, 9);
        nine.lay(14, 0, 0, 0, 1);
        is("32 DEPTH 9 is a SHAFT", nine.hole(14, 1), 2);
        nine.item(0, 0, 0, 8);
        nine.lay(14, 0, 0, 0, 1);
        is("32 DEPTH 8 is none", nine.hole(14, 1), 0);
    }

    // ---- 33 "TAX of each HOLE, by their least CELLS, comes to a SHEET .. from one on"

    private static void films() {
        HoleCounty x = Check.county("100000/000000/001000/001000/000000/000009");
        x.sheet(0, 2, 5);
        for (int i = 0; i < 5; i++) {
            x.item(0, 2, i, 7);
        }
        is("33 ahead of the first", x.film(0, 2, -1), INDEX);
        is("33 one too far", x.film(0, 2, 3), INDEX);
        is("33 just enough room", x.film(0, 2, 2), 3);
        int[] due = {7, 7, 1, 4, 1};
        for (int i = 0; i < 5; i++) {
            is("33 item " + i, x.lay(6, 0, 2, i, 1) * 10 + x.told(6, 0), 10 + due[i]);
        }
        HoleCounty one = row(2, 7, 7, 7);
        one.dig(35);
        is("33 one HOLE", one.film(0, 2, 1), 1);
        for (int i = 0; i < 3; i++) {
            is("33 what stands around stays", depthOf(one, 0, 2, i), i == 1 ? 1 : 7);
        }
    }

    private static void filmOfNothing() {
        for (int n : new int[] {0, 1, 36}) {
            HoleCounty x = new HoleCounty();
            x.sheet(0, 0, n);
            is("33 no HOLE", x.film(0, 0, 0), 0);
            is("33 no HOLE behind the last", x.film(0, 0, n), 0);
            is("33 beyond", x.film(0, 0, n + 1), INDEX);
            is("33 ahead", x.film(0, 0, -1), INDEX);
        }
        HoleCounty x = new HoleCounty();
        is("33 NULL without a HOLE, too", x.film(0, 0, 0), NULL);
        x.sheet(0, 1, 3);
        is("33 CAST without a HOLE, too", x.film(0, 0, 0), CAST);
    }

    /** "(its lowest bits)": a byte holds -128 to 127 of a tax. */
    private static void filmBits() {
        for (int rate = 80; rate <= 99; rate++) {
            HoleCounty x = Check.county("000000/011100/000000/000000/000000/000000");
            x.rate(rate);
            x.sheet(0, 0, 1);
            x.sheet(1, 1, 1);
            x.film(0, 0, 0);
            x.film(1, 1, 0);
            byte low = (byte) (3 * rate);
            is("33 a byte of " + 3 * rate, depthOf(x, 0, 0, 0), low >= 0 && low <= 9 ? low : NOT);
            is("33 a short of " + 3 * rate, depthOf(x, 1, 1, 0), NOT);
        }
    }

    // ---- 34 "the first that is miscounted (no HOLE there, another number)", "NONE: all is right"

    private static void census() {
        for (int cells = 1; cells <= 6; cells++) {
            for (int counted = -1; counted <= 7; counted++) {
                for (int lane = 0; lane < 4; lane++) {
                    HoleCounty x = row(lane, 0, counted);
                    for (int c = 0; c < cells; c++) {
                        x.dig(c);
                    }
                    is("34 " + counted + " of " + cells, x.miscounted(0, lane, 0, 1), counted == cells ? NONE : 0);
                }
            }
        }
        HoleCounty whole = Check.county("111111/111111/111111/111111/111111/111111");
        whole.sheet(0, 0, 2);
        whole.item(0, 0, 0, 35);
        whole.item(0, 0, 1, 36);
        is("34 the most CELLS", whole.miscounted(0, 0, 0, 1), NONE);
        HoleCounty none = row(0, 0, 0);
        is("34 no HOLE there, though 0 were counted", none.miscounted(0, 0, 0, 1), 0);
        HoleCounty twice = row(0, 7, 1, 7, 1);
        twice.dig(7);
        is("34 the same HOLE may be counted twice", twice.miscounted(0, 0, 0, 2), NONE);
    }

    /** "n HOLES (1 .. 12) .. two items each" */
    private static void censusByNumber() {
        for (int n = 1; n <= 12; n++) {
            for (int wrong = 0; wrong <= n; wrong++) {
                HoleCounty x = new HoleCounty();
                x.dig(35);
                x.sheet(0, 0, 2 * n);
                for (int k = 0; k < n; k++) {
                    x.item(0, 0, 2 * k, 35);
                    x.item(0, 0, 2 * k + 1, k < wrong ? 1 : 2);
                }
                is("34 wrong from " + wrong + " of " + n, x.miscounted(0, 0, 0, n), wrong == n ? NONE : wrong);
                is("34 one too many", x.miscounted(0, 0, 0, n + 1), n == 12 ? BAD : INDEX);
                is("34 one too far", x.miscounted(0, 0, 1, n), INDEX);
                is("34 the last alone", x.miscounted(0, 0, 2 * n - 2, 1), wrong == n ? NONE : 0);
            }
        }
    }

    private static void censusOfNoCells() {
        long[] noCells = {-1, 36, 64, 127, -128, 32768, 65536, 1L << 32, 1L << 36, Long.MIN_VALUE, Long.MAX_VALUE};
        for (long cell : noCells) {
            HoleCounty x = row(3, cell, 36, 0, cell);
            Check.typed(x, "111111/111111/111111/111111/111111/111111").ground();
            is("34 no CELL " + cell, x.miscounted(0, 3, 0, 1), 0);
            is("34 no such number " + cell, x.miscounted(0, 3, 2, 1), cell == 36 ? NONE : 0);
        }
        HoleCounty wrapped = row(3, 7, 1, 7 + (1L << 32), 1, 7, 1 + (1L << 32), 7 + 64, 1);
        wrapped.dig(7);
        is("34 a long is no CELL by its lowest bits", wrapped.miscounted(0, 3, 0, 2), 1);
        is("34 nor a number", wrapped.miscounted(0, 3, 4, 1), 0);
        is("34 nor by what a shift leaves", wrapped.miscounted(0, 3, 6, 1), 0);
    }

    // ---- 38 "n items .. as if all were taken ahead"

    private static void copiesByNumber() {
        for (int n = 0; n <= 36; n++) {
            for (int lane = 0; lane < 4; lane++) {
                HoleCounty x = numbered(lane, 36);
                x.sheet(1, lane, n);
                is("38 n", x.copy(0, 36 - n, 1, 0, n), n);
                is("38 one more than there is room for", x.copy(0, 0, 1, 0, n + 1), INDEX);
                if (n > 0) {
                    is("38 the first", depthOf(x, 1, lane, 0), (36 - n) % 10);
                    is("38 the last", depthOf(x, 1, lane, n - 1), 5);
                }
                is("38 what it came from stays", depthOf(x, 0, lane, 35), 5);
            }
        }
    }

    private static HoleCounty numbered(int lane, int n) {
        HoleCounty x = new HoleCounty();
        x.sheet(0, lane, n);
        for (int i = 0; i < n; i++) {
            x.item(0, lane, i, i % 10);
        }
        return x;
    }

    private static void copiesOverThemselves() {
        for (int i = 0; i <= 8; i++) {
            for (int j = 0; j <= 8; j++) {
                for (int n = 0; n <= 9; n++) {
                    HoleCounty x = numbered(1, 8);
                    boolean fits = i + n <= 8 && j + n <= 8;
                    is("38 from " + i + " to " + j + ", " + n, x.copy(0, i, 0, j, n), fits ? n : INDEX);
                    for (int k = 0; k < 8; k++) {
                        boolean came = fits && k >= j && k < j + n;
                        is("38 item " + k, depthOf(x, 0, 1, k), came ? k - j + i : k);
                    }
                }
            }
        }
    }

    private static void copiesAmongLanes() {
        for (int a = 0; a < 4; a++) {
            for (int b = 0; b < 4; b++) {
                HoleCounty x = new HoleCounty();
                x.sheet(0, a, 2);
                is("38 NULL (either)", x.copy(0, 0, 1, 0, 0), NULL);
                is("38 NULL (either)", x.copy(1, 0, 0, 0, 0), NULL);
                x.sheet(1, b, 2);
                x.item(0, a, 0, 8);
                is("38 CAST: of unlike LANES", x.copy(0, 0, 1, 1, 1), a == b ? 1 : CAST);
                is("38 CAST of nothing", x.copy(0, 0, 1, 0, 0), a == b ? 0 : CAST);
                is("38 what came", depthOf(x, 1, b, 1), a == b ? 8 : 0);
            }
        }
    }
}
