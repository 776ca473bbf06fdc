/** The document's part 2 at its edges: nothing to be done, just enough, the most, and by none. */
public final class SearchEdgeTest {
    private static final int NOT = -2, FULL = -3, NONE = -4;
    private static final String WHOLE = "111111/111111/111111/111111/111111/111111";
    private static final Check CHECK = new Check();

    public static void main(String[] args) {
        filledByTax();
        filledRows();
        filledChangesKinds();
        splitBySize();
        splitRows();
        dugRows();
        dugThroughOthers();
        loopholes();
        roofs();
        worth();
        roundsBySize();
        roundRows();
        borders();
        largest();
        cuts();
        CHECK.end("SearchEdgeTest");
    }

    private static void is(String what, long got, long due) {
        CHECK.is(what, got, due);
    }

    private static HoleCounty dugAt(int... cells) {
        HoleCounty x = new HoleCounty();
        for (int c : cells) {
            x.dig(c);
        }
        return x;
    }

    /** How many there are, then all of them, then no more. */
    private static void filled(HoleCounty x, int tax, int... due) {
        is("19 filled to " + tax, x.filled(tax, -1), due.length);
        for (int i = 0; i < 2; i++) {
            is("19 filled to " + tax + ", " + i, x.filled(tax, i), i < due.length ? due[i] : NONE);
        }
    }

    private static void notFilled(HoleCounty x, int tax) {
        for (int i = -1; i < 2; i++) {
            is("19 NONE: by no two, " + tax, x.filled(tax, i), NONE);
        }
    }

    private static void split(HoleCounty x, int cell, int... due) {
        is("20 split of " + cell, x.split(cell, -1), due.length == 0 ? NONE : due.length);
        for (int i = 0; i < 2; i++) {
            is("20 split of " + cell + ", " + i, x.split(cell, i), i < due.length ? due[i] : NONE);
        }
    }

    private static void dug(HoleCounty x, int a, int b, int... due) {
        is("21 dug " + a + " " + b, x.dug(a, b, -1), due.length);
        for (int i = 0; i < 10; i++) {
            is("21 dug " + a + " " + b + ", " + i, x.dug(a, b, i), i < due.length ? due[i] : NONE);
            is("21 dug " + b + " " + a + ", " + i, x.dug(b, a, i), i < due.length ? due[i] : NONE);
        }
    }

    // ---- 19 "the fewest CELLS (0 .. 2) .. make TAX of all no more than told"

    private static void filledByTax() {
        filled(new HoleCounty(), 0);
        filled(new HoleCounty(), 9999);
        HoleCounty x = Check.county("000000/010100/000000/010000/000000/000000");
        filled(x, 9999);
        filled(x, 7);
        filled(x, 6);
        filled(x, 5, 7);
        filled(x, 4, 7);
        filled(x, 3, 7, 9);
        filled(x, 2, 7, 9);
        notFilled(x, 1);
        notFilled(x, 0);
        HoleCounty free = Check.county(WHOLE.replace('1', '2'));
        free.rate(0);
        filled(free, 24);
        notFilled(free, 23);
        HoleCounty nothing = Check.county("000000/011110/011110/011110/011110/000000");
        nothing.rate(0);
        filled(nothing, 0);
    }

    /** "of like ones the first as a rising row of CELLS" */
    private static void filledRows() {
        for (int a = 0; a < 36; a++) {
            filled(dugAt(a), 0, a);
            for (int b = a + 1; b < 36; b++) {
                filled(dugAt(b, a), 0, a, b);
            }
        }
        HoleCounty three = dugAt(0, 2, 4);
        filled(three, 2, 0);
        filled(three, 1, 0, 2);
        notFilled(three, 0);
        HoleCounty rich = Check.county("100100/000000/000000/000090/000000/000000");
        filled(rich, 13, 0);
        filled(rich, 12, 22);
        filled(rich, 2, 22);
        filled(rich, 1, 0, 22);
        notFilled(rich, 0);
    }

    /** With DEPTH 0 instead a hole may be of another kind: less is not always less. */
    private static void filledChangesKinds() {
        HoleCounty gap = Check.county("010000/010000/010000/000000/000000/000000");
        is("13 tax", gap.count(2), 3);
        filled(gap, 2, 13);
        filled(gap, 1, 7, 13);
        notFilled(gap, 0);
        HoleCounty pass = Check.county("111111/000000/000000/000000/000000/000000");
        is("13 tax", pass.count(2), 23);
        filled(pass, 22, 0);
        filled(pass, 7, 0);
        filled(pass, 6, 1);
        filled(pass, 5, 2);
        filled(pass, 4, 0, 2);
        notFilled(pass, 3);
    }

    // ---- 20 "the fewest CELLS (1, 2) of a HOLE that, so, leave two HOLES or more of its others"

    private static void splitBySize() {
        split(dugAt(0), 0);
        split(dugAt(0, 1), 1);
        split(dugAt(0, 1, 2), 0, 1);
        split(dugAt(0, 1, 6), 6, 0);
        split(dugAt(0, 1, 6, 7), 0, 0, 7);
        split(dugAt(33, 34, 35), 35, 34);
        split(dugAt(29, 34, 35), 35, 35);
        split(dugAt(28, 29, 34, 35), 35, 28, 35);
        split(dugAt(5, 6), 5);
        HoleCounty x = new HoleCounty();
        for (int i = -1; i < 2; i++) {
            is("20 NOT", x.split(0, i), NOT);
        }
    }

    private static void splitRows() {
        split(Check.county(WHOLE), 35, 1, 6);
        split(Check.county("111111/111111/111111/111111/111111/000000"), 0, 1, 6);
        split(Check.county("000000/011110/011110/011110/011110/000000"), 14, 8, 13);
        split(Check.county("111000/101000/111000/000000/000000/000000"), 0, 0, 2);
        split(Check.county("010000/111000/010000/000000/000000/000000"), 1, 7);
        split(Check.county("110110/110110/000000/000000/000000/000000"), 3, 3, 10);
        split(Check.county("110000/111000/011000/000000/000000/000000"), 0, 7);
        split(Check.county("111000/111000/000000/000000/000000/000000"), 0, 0, 7);
    }

    // ---- 21 "the fewest CELLS of DEPTH 0 that, with DEPTH 1 instead, make two HOLES parts of one"

    private static void dugRows() {
        dug(dugAt(0, 2), 0, 2, 1);
        dug(dugAt(0, 7), 0, 7, 1);
        dug(dugAt(5, 6), 5, 6, 0, 1, 2, 3, 4);
        dug(dugAt(0, 35), 0, 35, 1, 2, 3, 4, 5, 11, 17, 23, 29);
        dug(dugAt(5, 30), 5, 30, 0, 1, 2, 3, 4, 6, 12, 18, 24);
        dug(dugAt(0, 5), 0, 5, 1, 2, 3, 4);
        dug(dugAt(0, 30), 0, 30, 6, 12, 18, 24);
        dug(Check.county("111111/100001/101101/101101/100001/111111"), 0, 21, 8);
        dug(Check.county("110000/000000/000000/000000/000000/000011"), 1, 34, 2, 3, 4, 10, 16, 22, 28);
        HoleCounty x = dugAt(0, 1, 35);
        for (int i = -1; i < 10; i++) {
            is("21 NOT: both are one", x.dug(0, 1, i), NOT);
            is("21 NOT: one is none", x.dug(0, 2, i), NOT);
            is("21 NOT: both are none", x.dug(3, 2, i), NOT);
            is("21 NOT: the same CELL", x.dug(35, 35, i), NOT);
        }
    }

    /** Other HOLES need no digging: a way through them may be the one of the fewest. */
    private static void dugThroughOthers() {
        dug(Check.county("101000/000000/001000/000000/000000/000000"), 0, 14, 1, 8);
        dug(Check.county("100000/000000/011110/000010/000010/000001"), 0, 35, 1, 7, 29);
        dug(Check.county("101010/000000/000000/000000/000000/000000"), 0, 4, 1, 3);
        dug(Check.county("100001/000000/111111/000000/000000/000000"), 0, 5, 6, 11);
        dug(Check.county("101010/010101/101010/010101/101010/010101"), 0, 35, 1, 3, 5, 17, 29);
    }

    // ---- 22 "makes TAX of all least, if less than it is; of like ones the least"

    private static void loopholes() {
        is("22 nothing dug", new HoleCounty().loophole(), NONE);
        is("22 all dug", Check.county(WHOLE).loophole(), NONE);
        is("22 all but one", Check.county("011111/111111/111111/111111/111111/111111").loophole(), NONE);
        HoleCounty free = new HoleCounty();
        free.rate(0);
        is("22 as much is not less", free.loophole(), NONE);
        HoleCounty two = Check.county("000000/010000/000000/000000/000000/000000");
        is("22 a pit of one becomes a gap of two, as dear", two.loophole(), NONE);
        two.rate(1);
        is("22 nor is a new gap for nothing", two.loophole(), NONE);
        HoleCounty pit = Check.county("000000/011110/000000/000000/000000/000000");
        is("22 a pit of four becomes a gap of five", pit.loophole(), 1);
        HoleCounty inner = Check.county("000000/000000/009^000/000000/000000/000000");
        inner.rate(3);
        is("22 an absence without its roof is dearer", inner.loophole(), NONE);
        HoleCounty none = Check.county("000000/000000/000000/000000/000011/000010");
        none.rate(0);
        is("22 no tax can't be less", none.loophole(), NONE);
        HoleCounty corner = Check.county("111111/111111/111111/111111/111111/111110");
        corner.rate(0);
        is("22 a fence that stays as long", corner.loophole(), NONE);
        HoleCounty dent = Check.county("111111/101111/111111/111111/111111/111111");
        dent.rate(0);
        is("22 a fence less within", dent.loophole(), 7);
        HoleCounty tooDear = Check.county("111111/101111/111111/111111/111111/111111");
        is("22 four sides less for one cell more", tooDear.loophole(), 7);
        tooDear.rate(4);
        is("22 as dear", tooDear.loophole(), NONE);
        is("22 the first CELL", Check.county("01^0000/000000/000000/000000/000000/000000").loophole(), 0);
        HoleCounty last = Check.county("1^1^1^1^1^1^/1^1^1^1^1^1^/1^1^1^1^1^1^/1^1^1^1^1^1^/1^1^1^1^1^1^/1^1^1^1^1^0");
        is("22 a pass would be dearer", last.loophole(), NONE);
        last.rate(99);
        is("22 the last CELL", last.loophole(), 35);
    }

    // ---- 23 "the fewest CELLS without a ROOF that need one"

    private static void roofs() {
        HoleCounty x = Check.county(WHOLE);
        for (int c = 0; c < 36; c++) {
            is("23 roofs still needed", x.roofs(35), 36 - c);
            x.roof(c);
        }
        is("23 none", x.roofs(0), 0);
        is("14 it is an ABSENCE", x.hole(0, 1), 4);
        HoleCounty two = Check.county("101^000/000000/000000/000000/000000/000000");
        is("23 of one hole alone", two.roofs(0) * 10 + two.roofs(2), 10);
    }

    // ---- 18 "TAX of all, less that if all CELLS he has were filled"

    private static void worth() {
        HoleCounty x = Check.county("000000/010000/000000/000000/000000/000000");
        is("18 he has nothing", x.worth(0), 0);
        x.own(8, 0);
        is("18 a CELL of DEPTH 0 is worth nothing", x.worth(0), 0);
        x.own(7, 0);
        is("18 all of it", x.worth(0), 2);
        HoleCounty gap = Check.county("010000/010000/010000/000000/000000/000000");
        gap.own(1, 3);
        is("18 below 0", gap.worth(3), 3 - 4);
        is("18 BAD is told apart from that", gap.worth(4), -100001);
        gap.rate(98);
        is("18 far below 0", gap.worth(3), 147 - 196);
        HoleCounty most = Check.county("111111/100000/100000/100000/100000/100000");
        most.rate(99);
        for (int c = 0; c < 36; c++) {
            most.own(c, 1);
        }
        is("18 the whole county", most.worth(1), most.count(2));
        HoleCounty pieces = Check.county("000000/011100/000000/000000/000000/000000");
        pieces.own(8, 2);
        is("18 two are left of three", pieces.worth(2), 6 - 4);
    }

    // ---- 24 "of 8 HOLES at most", "FULL: there are more than 8 HOLES; NONE: there is no i-th"

    private static void roundsBySize() {
        int[] cells = {0, 2, 4, 16, 14, 12, 24, 26, 28, 35};
        HoleCounty x = new HoleCounty();
        for (int n = 0; n <= 8; n++) {
            is("24 steps to " + n, x.round(0, -1), n == 0 ? 0 : 2 * (n - 1));
            for (int i = 0; i < 8; i++) {
                is("24 hole " + i + " of " + n, x.round(0, i) == NONE ? 1 : 0, i < n ? 0 : 1);
            }
            x.dig(cells[n]);
        }
        for (int n = 9; n <= 10; n++) {
            for (int i = -1; i < 8; i++) {
                is("24 FULL: " + n, x.round(0, i), FULL);
            }
            x.dig(cells[9]);
        }
        x.fill(0);
        is("24 nine are left", x.round(0, -1), FULL);
        x.fill(2);
        is("24 eight are left", x.round(4, 0), 4);
        HoleCounty far = dugAt(0, 5, 30, 35, 14, 16, 25, 9);
        is("24 eight, each is gone to once", rowOf(far, 20, 8), Check.set(0, 5, 30, 35, 14, 16, 25, 9));
    }

    private static long rowOf(HoleCounty x, int from, int n) {
        long seen = 0;
        for (int i = 0; i < n; i++) {
            seen |= 1L << x.round(from, i);
        }
        return seen;
    }

    private static void round(HoleCounty x, int from, int steps, int... due) {
        is("24 steps from " + from, x.round(from, -1), steps);
        for (int i = 0; i < 8; i++) {
            is("24 from " + from + ", " + i, x.round(from, i), i < due.length ? due[i] : NONE);
        }
    }

    /** "of like ones the least (where it is in it already it stays)", "of like ones the first (by their least CELLS)" */
    private static void roundRows() {
        round(dugAt(35), 0, 10, 35);
        round(dugAt(0), 35, 10, 0);
        round(dugAt(0, 35), 0, 10, 0, 35);
        round(dugAt(0, 35), 35, 10, 35, 0);
        round(dugAt(0, 2), 1, 3, 0, 2);
        round(dugAt(0, 2, 4), 2, 6, 0, 2, 4);
        round(dugAt(2, 12), 0, 6, 2, 12);
        // 4 first are 8 steps, 13 first one less
        round(dugAt(4, 13), 1, 7, 13, 4);
        round(dugAt(4, 13, 35), 1, 2 + 5 + 6, 13, 4, 35);
        // the hole's least CELL is 5, but 11 is where the mole comes to
        round(dugAt(5, 11, 17, 21), 18, 3 + 3, 21, 5);
        // it stays at 0 in the hole 0, 1, 2: not to 2, which is nearer to 4
        round(dugAt(0, 1, 2, 4), 0, 4, 0, 4);
        round(dugAt(0, 1, 2, 4), 2, 2, 0, 4);
        // from 14 both 8 and 13 are one step: it goes to 8, and from there to 24 are 5
        round(dugAt(7, 8, 13, 24), 14, 6, 7, 24);
    }

    // ---- 25 "of HOLES the one of most CELLS, of like ones that of the least CELL"

    private static void borders() {
        HoleCounty none = new HoleCounty();
        is("25 NONE", none.border(0), NONE);
        is("25 NONE", none.border(1), NONE);
        HoleCounty one = dugAt(35);
        is("25 the last CELL", one.border(0) * 100 + one.border(1), 3504);
        one.fill(35);
        is("25 NONE again", one.border(0), NONE);
        HoleCounty alike = Check.county("000000/000000/110000/000000/000000/000111");
        is("25 three against two", alike.border(0) * 100 + alike.border(1), 3308);
        alike.dig(14);
        is("25 three against three", alike.border(0) * 100 + alike.border(1), 1208);
        is("25 not by its fence", Check.county("110000/110000/000000/011100/000000/000000").border(1), 8);
    }

    // ---- 14 "the greatest n (1 .. 6)": each square at each place, and one that lacks a corner

    private static void largest() {
        for (int n = 1; n <= 6; n++) {
            for (int row = 0; row + n <= 6; row++) {
                for (int column = 0; column + n <= 6; column++) {
                    HoleCounty x = square(n, row, column);
                    int corner = row * 6 + column;
                    is("14 square of " + n + " at " + corner, x.hole(corner, 7), n);
                    int last = corner + (n - 1) * 7;
                    if (n > 1) {
                        x.fill(last);
                        is("14 without its last CELL", x.hole(corner, 7), n - 1);
                        is("26 which is what is wanting", x.cut(corner), last);
                    }
                }
            }
        }
        is("14 no square beyond the side", Check.county("000011/100000/000000/000000/000000/000000").hole(4, 7), 1);
        is("14 long is not broad", Check.county("111111/111111/000000/000000/000000/000000").hole(0, 7), 2);
    }

    private static HoleCounty square(int n, int row, int column) {
        HoleCounty x = new HoleCounty();
        for (int k = 0; k < n * n; k++) {
            x.dig((row + k / n) * 6 + column + k % n);
        }
        return x;
    }

    // ---- 26 "makes LARGEST of the HOLE it then belongs to greater than that was"

    private static void cuts() {
        is("26 no RIM", Check.county(WHOLE).cut(0), NONE);
        is("26 whole but for a corner", Check.county("011111/111111/111111/111111/111111/111111").cut(35), 0);
        is("26 whole but for the last", Check.county("111111/111111/111111/111111/111111/111110").cut(0), 35);
        is("26 whole but for two", Check.county("011111/111111/111111/111111/111111/111110").cut(1), NONE);
        is("26 two CELLS", dugAt(7, 8).cut(7), NONE);
        is("26 three in a row", dugAt(7, 8, 9).cut(7), NONE);
        is("26 a bend", dugAt(8, 13, 14).cut(8), 7);
        is("26 two bends: the least", dugAt(7, 8, 14, 15).cut(7), 9);
        HoleCounty joined = Check.county("101100/001100/000000/000000/000000/000000");
        is("26 what it is joined with", joined.cut(0), 1);
        is("26 not the other way", joined.cut(2), NONE);
        is("26 not across the side", dugAt(5, 11, 12).cut(5), NONE);
    }
}
