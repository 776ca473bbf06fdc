/** The document's part 1 at its edges: the county's sides, the smallest and the largest hole, kinds, taxes, owners. */
public final class GroundEdgeTest {
    private static final int FULL = -3, NOT = -2, NONE = -4;
    private static final int PIT = 0, GAP = 1, SHAFT = 2, PASS = 3, ABSENCE = 4, NOBODY = 4;
    private static final String WHOLE = "111111/111111/111111/111111/111111/111111";
    private static final String EMPTY = "000000/000000/000000/000000/000000/000000";
    private static final Check CHECK = new Check();

    public static void main(String[] args) {
        atFirst();
        everyCellAlone();
        everyTwoCells();
        wholeGround();
        mostHoles();
        within();
        depths();
        roofs();
        passes();
        shafts();
        absences();
        taxOfPits();
        taxOfGaps();
        taxOfPasses();
        taxOfAbsences();
        ownerOfHole();
        parts();
        CHECK.end("GroundEdgeTest");
    }

    private static void is(String what, long got, long due) {
        CHECK.is(what, got, due);
    }

    private static HoleCounty dugAt(int... cells) {
        HoleCounty x = new HoleCounty();
        for (int c : cells) {
            x.dig(c);
        }
        return x;
    }

    private static boolean isEdge(int c) {
        return c / 6 == 0 || c / 6 == 5 || c % 6 == 0 || c % 6 == 5;
    }

    private static int steps(int a, int b) {
        return Math.abs(a / 6 - b / 6) + Math.abs(a % 6 - b % 6);
    }

    /** "0 at first: nothing is dug", "none (at first)", "nobody (4, at first)", "2 at first", "nothing (at first)" */
    private static void atFirst() {
        HoleCounty x = new HoleCounty();
        for (int c = 0; c < 36; c++) {
            is("1 depth of cell " + c, x.told(c, 0), 0);
            is("1 roof of cell " + c, x.told(c, 1), 0);
            is("1 owner of cell " + c, x.told(c, 2), NOBODY);
            is("1 hole of cell " + c, x.told(c, 3), NONE);
        }
        int[] due = {0, 0, 0, 0, 2, 0, 0};
        for (int what = 0; what < 7; what++) {
            is("1 count " + what, x.count(what), due[what]);
        }
        for (int owner = 0; owner < 4; owner++) {
            is("17 nobody pays anything", x.pays(owner), 0);
            is("18 nobody is worth anything", x.worth(owner), 0);
            is("36 no sheet", x.drop(owner), -11);
        }
    }

    /** The smallest hole at each place of the county: corners, sides, inside. */
    private static void everyCellAlone() {
        for (int c = 0; c < 36; c++) {
            HoleCounty x = dugAt(c);
            long rim = 0;
            for (int d = 0; d < 36; d++) {
                rim |= steps(c, d) == 1 ? 1L << d : 0;
            }
            is("14 one CELL", x.hole(c, 0), 1);
            is("14 kind of cell " + c, x.hole(c, 1), isEdge(c) ? GAP : PIT);
            is("14 tax of cell " + c, x.hole(c, 2), isEdge(c) ? 1 : 2);
            is("14 FENCE at the EDGE of the county, too", x.hole(c, 3), 4);
            is("14 RIM of cell " + c, x.hole(c, 4), Long.bitCount(rim));
            is("14 nobody", x.hole(c, 5), NOBODY);
            is("14 NESTED in none", x.hole(c, 6), 0);
            is("14 LARGEST", x.hole(c, 7), 1);
            is("15 its CELL", x.cells(c, 0), 1L << c);
            is("15 its RIM", x.cells(c, 1), rim);
            is("15 nothing WITHIN", x.cells(c, 2), 0);
            is("8 the least CELL", x.told(c, 3), c);
            is("25 the largest nothing", x.border(0) * 10 + x.border(1), c * 10 + 4);
            is("23 one roof", x.roofs(c), 1);
            is("19 filled", x.filled(0, -1) * 100 + x.filled(0, 0), 100 + c);
            is("20 too small to be split", x.split(c, -1), NONE);
            is("26 too small to be cut", x.cut(c), NONE);
            is("24 the mole is there", x.round(c, -1) * 100 + x.round(c, 0), c);
            x.own(Long.numberOfTrailingZeros(rim), 3);
            is("16, 17 one owner pays all", x.part(c, 3) * 10 + x.pays(3), isEdge(c) ? 11 : 22);
            is("14 he is its OWNER", x.hole(c, 5), 3);
            x.own(c, 2);
            is("18 worth of it", x.worth(2) * 10 + x.worth(3), isEdge(c) ? 10 : 20);
        }
    }

    /** "BESIDE one another by sides": no corner, and no way round from one side of the county to the other. */
    private static void everyTwoCells() {
        for (int a = 0; a < 36; a++) {
            for (int b = a + 1; b < 36; b++) {
                HoleCounty x = dugAt(b, a);
                boolean one = steps(a, b) == 1;
                String what = a + " and " + b;
                is("13 HOLES of " + what, x.count(0), one ? 1 : 2);
                is("8 least CELL of " + what, x.told(b, 3), one ? a : b);
                is("14 FENCE of " + what, x.hole(a, 3), one ? 6 : 4);
                is("14 CELLS of " + what, x.hole(b, 0), one ? 2 : 1);
                is("25 least CELL of like ones of " + what, x.border(0), a);
                is("24 steps between " + what, x.round(a, -1), one ? 0 : steps(a, b));
                is("21 dug between " + what, x.dug(a, b, -1), one ? NOT : steps(a, b) - 1);
            }
        }
    }

    /** "as large as can be": nothing but hole. */
    private static void wholeGround() {
        HoleCounty x = Check.county(WHOLE);
        int[] due = {36, PASS, (6 + 33 * 4) / 2 + 24, 24, 0, NOBODY, 0, 6};
        for (int c = 0; c < 36; c++) {
            for (int what = 0; what < 8; what++) {
                is("14 whole ground, cell " + c + ", what " + what, x.hole(c, what), due[what]);
            }
            is("8 least", x.told(c, 3), 0);
            is("26 no RIM to be cut", x.cut(c), NONE);
            is("23 roofs", x.roofs(c), 36);
            is("24 the mole is in it", x.round(c, -1), 0);
        }
        is("15 all CELLS", x.cells(35, 0), (1L << 36) - 1);
        is("15 no RIM", x.cells(0, 1), 0);
        is("15 nothing WITHIN", x.cells(0, 2), 0);
        is("22 nothing to be dug", x.loophole(), NONE);
        wholeGroundOwned(due[2]);
    }

    private static void wholeGroundOwned(int tax) {
        HoleCounty x = Check.county(WHOLE);
        for (int c = 0; c < 36; c++) {
            x.own(c, c % 4);
        }
        is("14 without a RIM nobody is its OWNER", x.hole(0, 5), NOBODY);
        is("16 nobody pays what is left: all", x.part(0, 0) + x.part(0, 3), 0);
        for (int c = 0; c < 36; c++) {
            x.own(c, 2);
        }
        is("18 worth of the whole county", x.worth(2), tax);
        is("18 and of nothing", x.worth(1), 0);
    }

    private static void mostHoles() {
        HoleCounty x = Check.county("101010/010101/101010/010101/101010/010101");
        is("13 HOLES", x.count(0), 18);
        is("13 CELLS", x.count(1), 18);
        int edges = 10;
        is("13 TAX", x.count(2), edges + 2 * (18 - edges));
        x.sheet(0, 0, 18);
        is("33 as many taxes", x.film(0, 0, 0), 18);
        x.sheet(0, 0, 17);
        is("33 no room for the last", x.film(0, 0, 0), -13);
        is("27 as many HOLES", x.books(0, 18, edges + 2 * (18 - edges), 0), 1);
    }

    /** "from which one can't come to a CELL at the EDGE": the most, the least, a gap by a side or by a corner. */
    private static void within() {
        HoleCounty most = Check.county("111111/100001/100001/100001/100001/111111");
        long inner = 0;
        for (int c = 0; c < 36; c++) {
            inner |= isEdge(c) ? 0 : 1L << c;
        }
        is("15 all but the EDGE is WITHIN", most.cells(0, 2), inner);
        is("15 one CELL WITHIN", Check.county("111000/101000/111000/000000/000000/000000").cells(0, 2), 1L << 7);
        is("15 a corner may be missing", Check.county("011000/101000/111000/000000/000000/000000").cells(1, 2), 1L << 7);
        is("15 but no side", Check.county("101000/101000/111000/000000/000000/000000").cells(0, 2), 0);
        is("15 a CELL at the EDGE is not WITHIN", Check.county("101000/111000/000000/000000/000000/000000").cells(0, 2), 0);
        is("15 nor in a corner", Check.county("010000/110000/000000/000000/000000/000000").cells(7, 2), 0);
        HoleCounty two = Check.county("111110/101010/111110/000000/000000/000000");
        is("15 two WITHIN", two.cells(0, 2), Check.set(7, 9));
        HoleCounty nest = Check.county("111110/100010/101010/100010/111110/000000");
        is("14 NESTED in one", nest.hole(14, 6), 1);
        is("14 NESTED in none", nest.hole(0, 6), 0);
        is("15 holes are WITHIN, too", nest.cells(0, 2), Check.set(7, 8, 9, 13, 14, 15, 19, 20, 21));
        nest.fill(28);
        is("14 a missing corner lets nothing out", nest.hole(14, 6), 1);
        nest.fill(27);
        is("14 a missing side does", nest.hole(14, 6), 0);
    }

    private static void depths() {
        for (int c : new int[] {0, 14, 35}) {
            HoleCounty x = new HoleCounty();
            is("3 NOT: it is 0", x.fill(c), NOT);
            for (int d = 1; d <= 9; d++) {
                is("2 DEPTH then", x.dig(c), d);
                is("8 DEPTH", x.told(c, 0), d);
                is("13 all DEPTHS together", x.count(6), d);
                is("13 CELLS of DEPTH above 0", x.count(1), 1);
            }
            is("2 FULL: it is 9", x.dig(c), FULL);
            is("2 FULL again", x.dig(c), FULL);
            is("3 what DEPTH was", x.fill(c), 9);
            is("3 NOT: it is 0", x.fill(c), NOT);
        }
        is("13 the most of all DEPTHS", Check.county(WHOLE.replace('1', '9')).count(6), 324);
    }

    /** "TO FILL (DEPTH 0, the ROOF goes, too)", "a CELL of DEPTH above 0 gets a ROOF, or loses it" */
    private static void roofs() {
        for (int c : new int[] {0, 14, 35}) {
            HoleCounty x = new HoleCounty();
            is("4 NOT: DEPTH is 0", x.roof(c), NOT);
            x.dig(c);
            is("4 gets a ROOF", x.roof(c) * 10 + x.count(5), 11);
            is("4 loses it", x.roof(c) * 10 + x.count(5), 0);
            x.roof(c);
            for (int d = 2; d <= 9; d++) {
                x.dig(c);
                is("2 a ROOF stays as it is dug", x.told(c, 1), 1);
            }
            x.fill(c);
            is("3 the ROOF goes, too", x.told(c, 1) + x.count(5), 0);
            is("4 NOT: DEPTH is 0 again", x.roof(c), NOT);
            x.dig(c);
            is("3 it does not come back", x.told(c, 1), 0);
        }
    }

    private static int kind(String ground, int cell) {
        return Check.county(ground).hole(cell, 1);
    }

    /** "it has CELLS in ROWS 0 and 5, or in COLUMNS 0 and 5": from side to side, and one short of it. */
    private static void passes() {
        for (int line = 0; line < 6; line++) {
            HoleCounty down = new HoleCounty();
            HoleCounty across = new HoleCounty();
            for (int k = 0; k < 6; k++) {
                down.dig(6 * k + line);
                across.dig(6 * line + k);
            }
            is("14 down column " + line, down.hole(line, 1), PASS);
            is("14 across row " + line, across.hole(6 * line, 1), PASS);
            for (int k = 0; k < 6; k += 5) {
                HoleCounty shorter = new HoleCounty();
                HoleCounty narrower = new HoleCounty();
                for (int m = 0; m < 5; m++) {
                    shorter.dig(6 * (k == 0 ? m + 1 : m) + line);
                    narrower.dig(6 * line + (k == 0 ? m + 1 : m));
                }
                is("14 not down column " + line, shorter.hole(6 + line, 1), GAP);
                is("14 not across row " + line, narrower.hole(6 * line + 1, 1), GAP);
            }
        }
        is("14 down by other columns", kind("100000/111100/000100/000100/000100/000100", 0), PASS);
        is("14 two sides that meet are no pass", kind("111110/100000/100000/100000/100000/000000", 0), GAP);
        is("14 ROW 0 and COLUMN 5", kind("000011/000001/000001/000001/000001/000000", 5), GAP);
        is("14 two holes are no pass", kind("100000/100000/100000/000000/100000/100000", 0), GAP);
    }

    /** "it has a CELL of DEPTH 9, none at the EDGE" */
    private static void shafts() {
        for (int d = 1; d <= 9; d++) {
            is("14 DEPTH " + d, kind(EMPTY.substring(0, 9) + d + EMPTY.substring(10), 8), d == 9 ? SHAFT : PIT);
        }
        is("14 one of many CELLS", kind("000000/011110/011110/011110/011190/000000", 7), SHAFT);
        is("14 depths are not added", kind("000000/088000/000000/000000/000000/000000", 7), PIT);
        is("14 a CELL at the EDGE", kind("010000/090000/000000/000000/000000/000000", 7), GAP);
        is("14 DEPTH 9 at the EDGE", kind("090000/010000/000000/000000/000000/000000", 7), GAP);
        is("14 a pass of DEPTH 9", kind("999999/000000/000000/000000/000000/000000", 0), PASS);
        HoleCounty x = Check.county("000000/080000/000000/000000/000000/000000");
        x.dig(7);
        is("14 dug to 9", x.hole(7, 1), SHAFT);
        x.undo();
        is("14 undone", x.hole(7, 1), PIT);
    }

    /** "all its CELLS have a ROOF": of each kind, and all but one. */
    private static void absences() {
        String[] grounds = {"000000/01^1^000/000000/000000/000000/000000", "01^0000/01^0000/000000/000000/000000/000000",
            "000000/09^1^000/000000/000000/000000/000000", "000000/1^1^1^1^1^1^/000000/000000/000000/000000"};
        int[] without = {PIT, GAP, SHAFT, PASS};
        for (int k = 0; k < grounds.length; k++) {
            HoleCounty x = Check.county(grounds[k]);
            is("14 all roofed", x.hole(7, 1), ABSENCE);
            is("23 none needed", x.roofs(7), 0);
            x.roof(7);
            is("14 all but one", x.hole(7, 1), without[k]);
            is("23 one needed", x.roofs(7), 1);
            is("23 no refusal at the EDGE or without DEPTH 9", Check.county(grounds[k].replace("^", "")).roofs(7),
                    x.hole(7, 0));
        }
    }

    private static int pitTax(int rate, int cells) {
        return rate * Math.min(cells, 3) + 2 * rate * Math.max(cells - 3, 0);
    }

    /** "RATE for each of the first 3 CELLS, twice RATE for each other one (RATE 0 .. 99; 2 at first)" */
    private static void taxOfPits() {
        for (int rate : new int[] {0, 1, 2, 50, 99}) {
            HoleCounty x = new HoleCounty();
            x.rate(rate);
            int cells = 0;
            for (int c = 7; c < 29; c++) {
                if (!isEdge(c)) {
                    cells++;
                    x.dig(c);
                    is("14 TAX of " + cells + " by " + rate, x.hole(c, 2), pitTax(rate, cells));
                }
            }
            for (int d = 1; d < 9; d++) {
                x.dig(14);
            }
            is("14 TAX of a SHAFT, and 10", x.hole(7, 2), pitTax(rate, 16) + 10);
        }
    }

    /** "half of that, cut" */
    private static void taxOfGaps() {
        for (int rate : new int[] {0, 1, 2, 3, 99}) {
            HoleCounty x = new HoleCounty();
            x.rate(rate);
            for (int c = 0; c < 5; c++) {
                x.dig(c);
                is("14 TAX of a GAP of " + (c + 1) + " by " + rate, x.hole(0, 2), pitTax(rate, c + 1) / 2);
            }
        }
        HoleCounty two = dugAt(0, 35);
        two.rate(1);
        is("13 each is cut for itself", two.count(2), 0);
        two.rate(3);
        is("13 each is cut for itself", two.count(2), 2);
    }

    /** "what a GAP has, and its FENCE" */
    private static void taxOfPasses() {
        HoleCounty x = Check.county("111111/000000/000000/000000/000000/000000");
        for (int rate : new int[] {0, 1, 7, 99}) {
            x.rate(rate);
            is("14 TAX of a PASS by " + rate, x.hole(0, 2), pitTax(rate, 6) / 2 + 14);
        }
        HoleCounty most = Check.county(WHOLE);
        most.rate(99);
        is("13 the most of a hole", most.count(2), pitTax(99, 36) / 2 + 24);
    }

    /** "what a SHAFT has, less 3 times its CELLS, 0 at least" */
    private static void taxOfAbsences() {
        for (int rate : new int[] {0, 1, 2, 99}) {
            for (int cells = 1; cells <= 6; cells++) {
                HoleCounty x = new HoleCounty();
                x.rate(rate);
                for (int c = 0; c < cells; c++) {
                    x.dig(c);
                    x.roof(c);
                }
                is("14 TAX of an ABSENCE of " + cells + " by " + rate, x.hole(0, 2),
                        Math.max(0, pitTax(rate, cells) + 10 - 3 * cells));
            }
        }
        HoleCounty x = Check.county("1^1^1^1^1^1^/1^00000/000000/000000/000000/000000");
        x.rate(1);
        is("14 just 0", x.hole(0, 2), 0);
        x.dig(7);
        x.roof(7);
        is("14 0 at least", x.hole(0, 2), 0);
        HoleCounty y = Check.county("1^1^1^1^1^1^/000000/009000/000000/000000/000000");
        y.rate(0);
        is("13 what is below 0 takes nothing from the others", y.count(2), 10);
    }

    /** "who has most CELLS of its RIM, of like ones the least (nobody, if none of these has an OWNER)" */
    private static void ownerOfHole() {
        int[] rim = {8, 13, 15, 20};
        for (int owner = 0; owner < 4; owner++) {
            HoleCounty x = dugAt(14);
            x.own(14, owner);
            x.own(7, owner);
            is("14 neither the hole nor what is beside by a corner", x.hole(14, 5), NOBODY);
            x.own(20, owner);
            is("14 one CELL against three of nobody", x.hole(14, 5), owner);
            for (int other = 0; other < 4; other++) {
                x.own(8, other);
                is("14 of like ones the least", x.hole(14, 5), Math.min(owner, other));
                x.own(13, other);
                is("14 two against one", x.hole(14, 5), other);
                x.own(13, 4);
            }
        }
        HoleCounty all = dugAt(14);
        for (int k = 0; k < 4; k++) {
            all.own(rim[k], 3 - k);
        }
        is("14 four alike", all.hole(14, 5), 0);
        all.own(20, 4);
        is("14 three alike", all.hole(14, 5), 1);
    }

    /** "as many parts as CELLS of the RIM are his, of all that have an OWNER (each cut); nobody pays what is left" */
    private static void parts() {
        HoleCounty x = dugAt(14);
        x.rate(7);
        is("16 nobody owns: nothing", x.part(14, 0), 0);
        x.own(8, 0);
        is("16 all that have an OWNER: one of one", x.part(14, 0), 7);
        x.own(13, 1);
        is("16 cut", x.part(14, 0) * 10 + x.part(14, 1), 33);
        x.own(15, 1);
        is("16 thirds", x.part(14, 0) * 10 + x.part(14, 1), 24);
        x.own(20, 1);
        is("16 fourths", x.part(14, 0) * 10 + x.part(14, 1), 15);
        is("16 none of his", x.part(14, 3), 0);
        is("17 of one hole", x.pays(1), 5);
        x.rate(0);
        is("16 no TAX", x.part(14, 1), 0);
        HoleCounty two = dugAt(14, 16);
        two.rate(3);
        two.own(15, 0);
        two.own(8, 1);
        two.own(10, 1);
        is("17 each hole is cut for itself", two.pays(0) * 10 + two.pays(1), 22);
    }
}
