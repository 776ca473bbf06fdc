import java.util.TreeSet;

/** Every number that a call takes, at both ends of what is told of it: refused just outside, and nowhere inside. */
public final class RangeTest {
    private static final int BAD = -1, INDEX = -13, SIZE = -14, WORTH_BAD = -100001;
    private static final int LEAST = Integer.MIN_VALUE, MOST = Integer.MAX_VALUE;
    /** Ranges up to so many numbers are gone through whole. */
    private static final int SMALL = 200;
    /** Multiples of these fall away in a shift by 32 or 64, a byte, a short, a char: what must not be taken for a number inside. */
    private static final int[] WRAPS = {32, 64, 256, 65536, 1 << 24, 1 << 31};
    private static final Check CHECK = new Check();

    private interface Call {
        long on(HoleCounty x, int v);
    }

    public static void main(String[] args) {
        ground();
        holes();
        searches();
        books();
        sets();
        sheets();
        places();
        copies();
        CHECK.end("RangeTest");
    }

    /** Holes at cells 7, 8 and 35, a sheet of each lane (of 36, 30, 24 and 0 items, all of depth 0). */
    private static HoleCounty county() {
        HoleCounty x = new HoleCounty();
        x.dig(7);
        x.dig(8);
        x.dig(35);
        for (int lane = 0; lane < 3; lane++) {
            x.sheet(lane, lane, 36 - 6 * lane);
        }
        x.sheet(3, 3, 0);
        return x;
    }

    /** Sums that leave the ints come back at their other end, where they are just as good. */
    private static TreeSet<Integer> numbersAt(int from, int to) {
        TreeSet<Integer> numbers = new TreeSet<>();
        for (int d = -3; d <= 3; d++) {
            numbers.add(from + d);
            numbers.add(to + d);
            numbers.add(LEAST + 3 + d);
            numbers.add(MOST - 3 + d);
        }
        for (int v = from; v <= to && (long) to - from <= SMALL; v++) {
            numbers.add(v);
        }
        for (int wrap : WRAPS) {
            numbers.add(from + wrap);
            numbers.add(to + wrap);
            numbers.add(to - wrap);
        }
        return numbers;
    }

    /** Refused with this answer below the range, with that above it. */
    private static void range(String what, int from, int to, int below, int above, Call call) {
        for (int v : numbersAt(from, to)) {
            long got = call.on(county(), v);
            String name = what + " with " + v;
            if (v < from) {
                CHECK.is(name, got, below);
            } else if (v > to) {
                CHECK.is(name, got, above);
            } else {
                CHECK.holds(name + " is not refused by " + got, got != below && got != above);
            }
        }
    }

    private static void bad(String what, int from, int to, Call call) {
        range(what, from, to, BAD, BAD, call);
    }

    private static void index(String what, int from, int to, Call call) {
        range(what, from, to, INDEX, INDEX, call);
    }

    private static void ground() {
        bad("2 dig(cell)", 0, 35, (x, v) -> x.dig(v));
        bad("3 fill(cell)", 0, 35, (x, v) -> x.fill(v));
        bad("4 roof(cell)", 0, 35, (x, v) -> x.roof(v));
        bad("6 own(cell, ..)", 0, 35, (x, v) -> x.own(v, 4));
        bad("6 own(.., owner)", 0, 4, (x, v) -> x.own(0, v));
        bad("7 rate(v)", 0, 99, (x, v) -> x.rate(v));
        for (int what = 0; what < 4; what++) {
            int w = what;
            bad("8 told(cell, " + w + ")", 0, 35, (x, v) -> x.told(v, w));
        }
        bad("8 told(.., what)", 0, 3, (x, v) -> x.told(0, v));
        bad("9 type(letter)", 32, 126, (x, v) -> x.type(v));
        bad("13 count(what)", 0, 6, (x, v) -> x.count(v));
    }

    private static void holes() {
        for (int what = 0; what < 8; what++) {
            int w = what;
            bad("14 hole(cell, " + w + ")", 0, 35, (x, v) -> x.hole(v, w));
        }
        bad("14 hole(.., what)", 0, 7, (x, v) -> x.hole(7, v));
        for (int what = 0; what < 3; what++) {
            int w = what;
            bad("15 cells(cell, " + w + ")", 0, 35, (x, v) -> x.cells(v, w));
        }
        bad("15 cells(.., what)", 0, 2, (x, v) -> x.cells(7, v));
        bad("16 part(cell, ..)", 0, 35, (x, v) -> x.part(v, 0));
        bad("16 part(.., owner)", 0, 3, (x, v) -> x.part(7, v));
        bad("17 pays(owner)", 0, 3, (x, v) -> x.pays(v));
        range("18 worth(owner)", 0, 3, WORTH_BAD, WORTH_BAD, (x, v) -> x.worth(v));
    }

    private static void searches() {
        bad("19 filled(tax, ..)", 0, 9999, (x, v) -> x.filled(v, -1));
        bad("19 filled(.., i)", -1, 1, (x, v) -> x.filled(0, v));
        bad("20 split(cell, ..)", 0, 35, (x, v) -> x.split(v, -1));
        bad("20 split(.., i)", -1, 1, (x, v) -> x.split(7, v));
        bad("21 dug(a, ..)", 0, 35, (x, v) -> x.dug(v, 35, -1));
        bad("21 dug(.., b, ..)", 0, 35, (x, v) -> x.dug(35, v, -1));
        bad("21 dug(.., i)", -1, 9, (x, v) -> x.dug(7, 35, v));
        bad("23 roofs(cell)", 0, 35, (x, v) -> x.roofs(v));
        bad("24 round(cell, ..)", 0, 35, (x, v) -> x.round(v, -1));
        bad("24 round(.., i)", -1, 7, (x, v) -> x.round(0, v));
        bad("25 border(what)", 0, 1, (x, v) -> x.border(v));
        bad("26 cut(cell)", 0, 35, (x, v) -> x.cut(v));
    }

    private static void books() {
        for (int what = 0; what < 4; what++) {
            int w = what;
            bad("27 books(.., holes, .., " + w + ")", -1, 36, (x, v) -> x.books(0, v, -1, w));
            bad("27 books(.., tax, " + w + ")", -1, 9999, (x, v) -> x.books(0, -1, v, w));
        }
        bad("27 books(.., what)", 0, 3, (x, v) -> x.books(0, -1, -1, v));
        bad("28 lots(n)", 1, 99, (x, v) -> x.lots(v));
        bad("29 seed(v)", 0, MOST, (x, v) -> x.seed(v));
    }

    /** Bits of a set that are no CELLS, and how many there may be of those that are. */
    private static void sets() {
        for (int bit = 0; bit < 64; bit++) {
            long got = new HoleCounty().books(1L << bit, -1, -1, 0);
            CHECK.is("27 books of bit " + bit, got, bit < 36 ? 2 : BAD);
            CHECK.is("27 books of bit " + bit + " among others", new HoleCounty().books(1L << bit | 3, 1, -1, 0) == BAD ? 1 : 0,
                    bit < 36 ? 0 : 1);
        }
        long set = 0;
        for (int n = 0; n <= 36; n++) {
            long ahead = set;
            CHECK.is("27 books of the first " + n, new HoleCounty().books(ahead, -1, -1, 0), n <= 6 ? 1L << n : BAD);
            CHECK.is("27 books of the last " + n, new HoleCounty().books(ahead << 36 - n, -1, -1, 0), n <= 6 ? 1L << n : BAD);
            set |= 1L << n;
        }
        CHECK.is("27 books of all bits", new HoleCounty().books(-1L, -1, -1, 0), BAD);
    }

    private static void sheets() {
        bad("32 lay(cell, ..)", 0, 35, (x, v) -> x.lay(v, 0, 0, 0, 1));
        bad("32 lay(.., sheet, ..)", 0, 3, (x, v) -> x.lay(0, v, 0, 0, 1));
        bad("32 lay(.., lane, ..)", 0, 3, (x, v) -> x.lay(0, 0, v, 0, 1));
        for (int cell = 0; cell < 36; cell++) {
            int c = cell;
            bad("32 lay(" + c + ", .., n): also beyond CELL 35", 1, 36 - c, (x, v) -> x.lay(c, 0, 0, 0, v));
        }
        bad("33 film(sheet, ..)", 0, 3, (x, v) -> x.film(v, 0, 0));
        bad("33 film(.., lane, ..)", 0, 3, (x, v) -> x.film(0, v, 0));
        bad("34 miscounted(sheet, ..)", 0, 3, (x, v) -> x.miscounted(v, 0, 0, 1));
        bad("34 miscounted(.., lane, ..)", 0, 3, (x, v) -> x.miscounted(0, v, 0, 1));
        bad("34 miscounted(.., n)", 1, 12, (x, v) -> x.miscounted(0, 0, 0, v));
        bad("35 sheet(sheet, ..)", 0, 3, (x, v) -> x.sheet(v, 0, 1));
        bad("35 sheet(.., lane, ..)", 0, 3, (x, v) -> x.sheet(0, v, 1));
        range("35 sheet(.., n)", 0, 36, SIZE, BAD, (x, v) -> x.sheet(0, 0, v));
        bad("36 drop(sheet)", 0, 3, (x, v) -> x.drop(v));
        bad("37 item(sheet, ..)", 0, 3, (x, v) -> x.item(v, 0, 0, 1));
        bad("37 item(.., lane, ..)", 0, 3, (x, v) -> x.item(0, v, 0, 1));
        bad("38 copy(from, ..)", 0, 3, (x, v) -> x.copy(v, 0, 0, 0, 1));
        bad("38 copy(.., to, ..)", 0, 3, (x, v) -> x.copy(0, 0, v, 0, 1));
    }

    /** Places in a SHEET: of each length the last that holds what a call wants of it. */
    private static void places() {
        int[] lengths = {36, 30, 24};
        for (int s = 0; s < 3; s++) {
            int sheet = s, length = lengths[s];
            for (int items : new int[] {1, 2, 12}) {
                index("32 lay(.., from, " + items + ")", 0, length - items, (x, v) -> x.lay(0, sheet, sheet, v, items));
            }
            index("33 film(.., from) of two holes", 0, length - 2, (x, v) -> x.film(sheet, sheet, v));
            for (int holes : new int[] {1, 2, 12}) {
                index("34 miscounted(.., from, " + holes + ")", 0, length - 2 * holes,
                        (x, v) -> x.miscounted(sheet, sheet, v, holes));
            }
            index("37 item(.., i, ..)", 0, length - 1, (x, v) -> x.item(sheet, sheet, v, 9));
        }
        for (int v : new int[] {LEAST, -1, 0, 1, MOST}) {
            CHECK.is("37 item " + v + " of an empty row", county().item(3, 3, v, 1), INDEX);
            CHECK.is("32 lay from " + v + " of an empty row", county().lay(0, 3, 3, v, 1), INDEX);
            CHECK.is("33 film from " + v + " of an empty row", county().film(3, 3, v), INDEX);
            CHECK.is("34 miscounted from " + v + " of an empty row", county().miscounted(3, 3, v, 1), INDEX);
        }
    }

    private static void copies() {
        for (int n : new int[] {0, 1, 5, 36}) {
            index("38 copy(.., i, .., " + n + ")", 0, 36 - n, (x, v) -> x.copy(0, v, 0, 0, n));
            index("38 copy(.., j, " + n + ")", 0, 36 - n, (x, v) -> x.copy(0, 0, 0, v, n));
        }
        for (int at : new int[] {0, 1, 35, 36}) {
            index("38 copy(.., n) from " + at, 0, 36 - at, (x, v) -> x.copy(0, at, 0, 0, v));
            index("38 copy(.., n) to " + at, 0, 36 - at, (x, v) -> x.copy(0, 0, 0, at, v));
        }
        CHECK.is("38 nothing of an empty row", county().copy(3, 0, 3, 0, 0), 0);
        CHECK.is("38 one of an empty row", county().copy(3, 0, 3, 0, 1), INDEX);
    }
}
