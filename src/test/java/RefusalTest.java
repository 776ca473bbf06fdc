import java.nio.file.Files;
import java.nio.file.Path;
import java.util.ArrayList;
import java.util.HashMap;
import java.util.List;
import java.util.Map;
import java.util.Set;
import java.util.TreeSet;
import java.util.function.Supplier;
import java.util.function.ToLongFunction;
import java.util.regex.Matcher;
import java.util.regex.Pattern;

/**
 * "What is refused changes nothing", "of several the first that a call names", "(Nothing is changed by these.)": each call is
 * made on one of two counties that are alike, and all that can be told of them must be alike behind it, too. At the end the
 * document itself is asked whether each refusal that a promise names was seen here.
 */
public final class RefusalTest {
    private static final int BAD = -1, NOT = -2, FULL = -3, NONE = -4, NULL = -11, CAST = -12, INDEX = -13, SIZE = -14;
    private static final int WORTH_BAD = -100001, FAULT = -20;
    private static final int FAR = Integer.MAX_VALUE;
    private static final String GROUND = "1^03009/003001/900000/000100/011000/1^1^0002";
    private static final String OWNERS = "00--11/2233--/012301/------/333333/0-1-2-";
    private static final String CHECKERS = "101010/010101/101010/010101/101010/010101";
    private static final Check CHECK = new Check();
    private static final Map<Integer, Set<String>> SEEN = new HashMap<>();

    public static void main(String[] args) throws Exception {
        repairs();
        settings();
        tape();
        faults();
        holes();
        searches();
        books();
        sheets();
        sheetOrder();
        asked();
        seenAll();
        CHECK.end("RefusalTest");
    }

    // ---- counties with much to lose

    /** All that a county can hold, but for a text on THE TAPE: 10 repairs known, an image unlike it, sheets of three lanes. */
    private static HoleCounty untyped() {
        HoleCounty x = Check.county(GROUND);
        Check.typed(x, OWNERS).owners();
        x.rate(5);
        x.seed(77);
        x.dig(4);
        x.image();
        x.rate(7);
        x.own(0, 3);
        x.seed(99);
        int[] dug = {20, 20, 21, 14, 33};
        for (int c : dug) {
            x.dig(c);
        }
        x.roof(20);
        x.fill(5);
        x.roof(0);
        x.roof(21);
        x.fill(30);
        x.sheet(0, 0, 6);
        x.sheet(1, 1, 4);
        x.sheet(3, 3, 0);
        for (int i = 0; i < 6; i++) {
            x.item(0, 0, i, i + 3);
        }
        x.item(1, 1, 0, 20);
        x.item(1, 1, 1, 8);
        x.item(1, 1, 2, 9);
        return x;
    }

    private static HoleCounty busy() {
        return Check.typed(untyped(), "d0");
    }

    /** With less than the others have, so that no more than 512 calls are made of it. */
    private static HoleCounty fullTape() {
        HoleCounty x = new HoleCounty();
        x.dig(7);
        for (int n = 0; n < 157; n++) {
            x.type(' ');
        }
        return Check.typed(x, "d00");
    }

    /** Eighteen holes, nothing to be undone, no image, no sheet. */
    private static HoleCounty checkers() {
        return Check.county(CHECKERS);
    }

    // ---- all that can be told of a county

    private static List<Long> all(HoleCounty x) {
        List<Long> told = new ArrayList<>();
        cells(x, told);
        for (int what = 0; what < 7; what++) {
            told.add((long) x.count(what));
        }
        undone(x, told);
        told.add((long) x.type('0'));
        told.add((long) x.day());
        told.add((long) x.told(0, 0));
        held(x, told);
        told.add((long) x.seed(0));
        told.add((long) x.restore());
        told.add((long) x.seed(0));
        told.add((long) x.count(4));
        undone(x, told);
        cells(x, told);
        return told;
    }

    private static void cells(HoleCounty x, List<Long> told) {
        for (int c = 0; c < 36; c++) {
            for (int what = 0; what < 3; what++) {
                told.add((long) x.told(c, what));
            }
        }
    }

    private static void undone(HoleCounty x, List<Long> told) {
        for (int n = 0; n < 11; n++) {
            told.add((long) x.undo());
            told.add((long) x.count(5));
            told.add((long) x.count(6));
        }
    }

    /** Items as far as they are depths, then what each SHEET's lane and length are. */
    private static void held(HoleCounty x, List<Long> told) {
        for (int sheet = 0; sheet < 4; sheet++) {
            for (int i = 0; i < 6; i++) {
                told.add((long) x.lay(0, sheet, sheet, i, 1));
                told.add((long) x.told(0, 0));
            }
            told.add((long) x.drop(sheet));
        }
    }

    // ---- the two counties

    private static long leaves(Supplier<HoleCounty> made, String what, Supplier<HoleCounty> due, ToLongFunction<HoleCounty> call) {
        HoleCounty x = made.get();
        long answer = call.applyAsLong(x);
        CHECK.holds(what + " changes nothing", all(x).equals(all(due.get())));
        return answer;
    }

    private static void refused(int promise, Supplier<HoleCounty> made, String what, int due, ToLongFunction<HoleCounty> call) {
        String name = promise + " " + what;
        CHECK.is(name, leaves(made, name, made, call), due);
        SEEN.computeIfAbsent(promise, p -> new TreeSet<>()).add(nameOf(due));
    }

    private static void refused(int promise, String what, int due, ToLongFunction<HoleCounty> call) {
        refused(promise, RefusalTest::busy, what, due, call);
    }

    private static String nameOf(int answer) {
        switch (answer) {
            case BAD: case WORTH_BAD: return "BAD";
            case NOT: return "NOT";
            case FULL: return "FULL";
            case NONE: return "NONE";
            case NULL: return "NULL";
            case CAST: return "CAST";
            case INDEX: return "INDEX";
            case SIZE: return "SIZE";
            default: return answer <= FAULT ? "FAULT" : "no refusal";
        }
    }

    private static void repairs() {
        refused(2, "dig: BAD", BAD, x -> x.dig(-1));
        refused(2, "dig: BAD", BAD, x -> x.dig(36));
        refused(2, "dig: FULL: it is 9", FULL, x -> x.dig(12));
        refused(3, "fill: BAD", BAD, x -> x.fill(36));
        refused(3, "fill: NOT: it is 0", NOT, x -> x.fill(1));
        refused(3, "fill: NOT, as it was filled", NOT, x -> x.fill(5));
        refused(4, "roof: BAD", BAD, x -> x.roof(-1));
        refused(4, "roof: NOT: DEPTH is 0", NOT, x -> x.roof(30));
        refused(5, RefusalTest::checkers, "undo: NONE: none is known", NONE, x -> x.undo());
        refused(5, HoleCounty::new, "undo of a new object", NONE, x -> x.undo());
        refused(12, RefusalTest::untyped, "a day whose first repair is refused", 0, x -> Check.typed(x, "f01;d00").day());
    }

    private static void settings() {
        refused(6, "own: BAD cell", BAD, x -> x.own(36, 0));
        refused(6, "own: BAD owner", BAD, x -> x.own(0, 5));
        refused(6, "own: BAD owner", BAD, x -> x.own(0, -1));
        refused(7, "rate: BAD", BAD, x -> x.rate(-1));
        refused(7, "rate: BAD", BAD, x -> x.rate(100));
        refused(28, "lots: BAD", BAD, x -> x.lots(0));
        refused(28, "lots: BAD", BAD, x -> x.lots(100));
        refused(29, "seed: BAD", BAD, x -> x.seed(-1));
        refused(31, RefusalTest::checkers, "restore: NONE: there is none", NONE, x -> x.restore());
    }

    private static void tape() {
        refused(9, "type: BAD", BAD, x -> x.type(31));
        refused(9, "type: BAD", BAD, x -> x.type(127));
        refused(9, RefusalTest::fullTape, "type: FULL: 160", FULL, x -> x.type('0'));
        refused(9, RefusalTest::fullTape, "type: BAD ahead of FULL", BAD, x -> x.type(127));
        HoleCounty x = fullTape();
        x.type(';');
        CHECK.is("9 what stood on a full tape is still there", x.day() * 100 + x.told(0, 0), 101);
    }

    /** The TAPE is empty behind a FAULT, all else stays: as if nothing had been typed. */
    private static void faults() {
        String[] texts = {"", " ", "x", "000000/", "d00;x", "d00;d0", "d00;d00;", OWNERS.substring(1), GROUND + "0", OWNERS + "/"};
        for (String text : texts) {
            fault(10, text, x -> x.ground());
            fault(11, text, x -> x.owners());
            fault(12, text, x -> x.day());
        }
        fault(10, OWNERS, x -> x.ground());
        fault(10, "d00", x -> x.ground());
        fault(11, GROUND, x -> x.owners());
        fault(11, "d00", x -> x.owners());
        fault(12, GROUND, x -> x.day());
        fault(12, OWNERS, x -> x.day());
    }

    private static void fault(int promise, String text, ToLongFunction<HoleCounty> read) {
        String name = promise + " a FAULT of \"" + text + "\"";
        long answer = leaves(RefusalTest::untyped, name, RefusalTest::untyped, x -> read.applyAsLong(Check.typed(x, text)));
        CHECK.holds(name + " is a place in it: " + answer, answer <= FAULT && answer >= FAULT - text.length());
        SEEN.computeIfAbsent(promise, p -> new TreeSet<>()).add(nameOf((int) answer));
    }

    private static void holes() {
        refused(8, "told: BAD cell", BAD, x -> x.told(36, 0));
        refused(8, "told: BAD what", BAD, x -> x.told(0, 4));
        refused(8, "told: NONE: none", NONE, x -> x.told(1, 3));
        refused(13, "count: BAD", BAD, x -> x.count(7));
        for (int what = 0; what < 8; what++) {
            int w = what;
            refused(14, "hole: NOT: DEPTH is 0, " + w, NOT, x -> x.hole(1, w));
        }
        refused(14, "hole: BAD cell", BAD, x -> x.hole(36, 0));
        refused(14, "hole: BAD what ahead of NOT", BAD, x -> x.hole(1, 8));
        for (int what = 0; what < 3; what++) {
            int w = what;
            refused(15, "cells: NOT, " + w, NOT, x -> x.cells(1, w));
        }
        refused(15, "cells: BAD what ahead of NOT", BAD, x -> x.cells(1, 3));
        refused(16, "part: NOT", NOT, x -> x.part(1, 0));
        refused(16, "part: BAD owner ahead of NOT", BAD, x -> x.part(1, 4));
        refused(17, "pays: BAD", BAD, x -> x.pays(4));
        refused(18, "worth: BAD less 100000", WORTH_BAD, x -> x.worth(4));
    }

    private static void searches() {
        refused(19, "filled: BAD tax ahead of NONE", BAD, x -> x.filled(-1, 1));
        refused(19, "filled: BAD i ahead of NONE", BAD, x -> x.filled(0, 2));
        refused(19, "filled: NONE: by no two", NONE, x -> x.filled(0, -1));
        refused(19, "filled: NONE: there is no i-th", NONE, x -> x.filled(9999, 0));
        refused(20, "split: BAD i ahead of NOT", BAD, x -> x.split(1, 2));
        refused(20, "split: NOT ahead of NONE", NOT, x -> x.split(1, 1));
        refused(20, "split: NONE: by no two", NONE, x -> x.split(0, -1));
        refused(20, RefusalTest::checkers, "split: NONE: by no two, i", NONE, x -> x.split(0, 1));
        refused(21, "dug: BAD i ahead of NOT", BAD, x -> x.dug(1, 1, 10));
        refused(21, "dug: BAD b ahead of NOT", BAD, x -> x.dug(1, 36, 0));
        refused(21, "dug: NOT: one is none", NOT, x -> x.dug(0, 1, 9));
        refused(21, "dug: NOT: one is none", NOT, x -> x.dug(1, 0, 9));
        refused(21, "dug: NOT: both are one", NOT, x -> x.dug(20, 21, 9));
        refused(21, "dug: NONE: there is no i-th", NONE, x -> x.dug(0, 12, 9));
        refused(22, HoleCounty::new, "loophole: NONE", NONE, x -> x.loophole());
        refused(23, "roofs: BAD", BAD, x -> x.roofs(36));
        refused(23, "roofs: NOT", NOT, x -> x.roofs(1));
        refused(24, RefusalTest::checkers, "round: BAD cell ahead of FULL", BAD, x -> x.round(36, -1));
        refused(24, RefusalTest::checkers, "round: BAD i ahead of FULL", BAD, x -> x.round(0, 8));
        refused(24, RefusalTest::checkers, "round: FULL ahead of NONE", FULL, x -> x.round(0, 7));
        refused(24, HoleCounty::new, "round: NONE: there is no i-th", NONE, x -> x.round(0, 0));
        refused(25, HoleCounty::new, "border: BAD ahead of NONE", BAD, x -> x.border(2));
        refused(25, HoleCounty::new, "border: NONE: there is no HOLE", NONE, x -> x.border(0));
        refused(26, "cut: BAD", BAD, x -> x.cut(36));
        refused(26, "cut: NOT", NOT, x -> x.cut(1));
        refused(26, RefusalTest::checkers, "cut: NONE: there is none", NONE, x -> x.cut(0));
    }

    private static void books() {
        for (int what = 0; what < 4; what++) {
            int w = what;
            refused(27, "books: BAD: also more than 6 CELLS, " + w, BAD, x -> x.books(127, -1, -1, w));
            refused(27, "books: BAD CELL 36, " + w, BAD, x -> x.books(1L << 36, -1, -1, w));
            refused(27, "books: BAD HOLES ahead of NONE, " + w, BAD, x -> x.books(0, 37, 9999, w));
            refused(27, "books: BAD TAX ahead of NONE, " + w, BAD, x -> x.books(0, 36, 10000, w));
            refused(27, "books: NONE: there is no way, but how many, " + w, w == 0 ? 0 : NONE, x -> x.books(63, 36, -1, w));
        }
        refused(27, "books: BAD what ahead of NONE", BAD, x -> x.books(63, 36, -1, 4));
    }

    private static void sheets() {
        refused(32, "lay: BAD n", BAD, x -> x.lay(0, 0, 0, 0, 0));
        refused(32, "lay: BAD: also beyond CELL 35", BAD, x -> x.lay(34, 0, 0, 0, 3));
        refused(32, "lay: NULL", NULL, x -> x.lay(0, 2, 2, 0, 1));
        refused(32, "lay: CAST", CAST, x -> x.lay(0, 0, 1, 0, 1));
        refused(32, "lay: INDEX", INDEX, x -> x.lay(0, 0, 0, 5, 2));
        refused(32, "lay: NOT: one is not as told, the first", NOT, x -> x.lay(0, 1, 1, 0, 3));
        refused(32, "lay: NOT: one is not as told, the last", NOT, x -> {
            x.item(1, 1, 3, 10);
            long answer = x.lay(0, 1, 1, 1, 3);
            x.item(1, 1, 3, 0);
            return answer;
        });
        refused(33, "film: BAD sheet", BAD, x -> x.film(4, 0, 0));
        refused(33, "film: NULL", NULL, x -> x.film(2, 2, 0));
        refused(33, "film: CAST", CAST, x -> x.film(0, 1, 0));
        refused(33, "film: INDEX, though the first would have room", INDEX, x -> x.film(0, 0, 3));
        refused(34, "miscounted: BAD n", BAD, x -> x.miscounted(0, 0, 0, 13));
        refused(34, "miscounted: NULL", NULL, x -> x.miscounted(2, 2, 0, 1));
        refused(34, "miscounted: CAST", CAST, x -> x.miscounted(0, 1, 0, 1));
        refused(34, "miscounted: INDEX, though the first is miscounted", INDEX, x -> x.miscounted(0, 0, 0, 4));
        refused(34, "miscounted: NONE: all is right", NONE, x -> x.miscounted(1, 1, 0, 1));
        refused(35, "sheet: BAD: also n above 36", BAD, x -> x.sheet(0, 0, 37));
        refused(35, "sheet: SIZE: n below 0", SIZE, x -> x.sheet(0, 0, -1));
        refused(36, "drop: BAD", BAD, x -> x.drop(4));
        refused(36, "drop: NULL", NULL, x -> x.drop(2));
        refused(37, "item: BAD", BAD, x -> x.item(0, 4, 0, 9));
        refused(37, "item: NULL", NULL, x -> x.item(2, 2, 0, 9));
        refused(37, "item: CAST", CAST, x -> x.item(0, 1, 0, 9));
        refused(37, "item: INDEX", INDEX, x -> x.item(0, 0, 6, 9));
        refused(38, "copy: BAD", BAD, x -> x.copy(0, 0, 4, 0, 1));
        refused(38, "copy: NULL (from)", NULL, x -> x.copy(2, 0, 0, 0, 1));
        refused(38, "copy: NULL (to)", NULL, x -> x.copy(0, 0, 2, 0, 1));
        refused(38, "copy: CAST: of unlike LANES", CAST, x -> x.copy(0, 0, 1, 0, 1));
        refused(38, "copy: INDEX", INDEX, x -> x.copy(0, 0, 0, 3, 4));
    }

    /** NULL, CAST, INDEX, SIZE in this order, behind BAD; NOT is named last. */
    private static void sheetOrder() {
        refused(32, "lay: BAD n ahead of NULL", BAD, x -> x.lay(0, 2, 0, FAR, 37));
        refused(32, "lay: BAD cell ahead of CAST", BAD, x -> x.lay(36, 0, 1, FAR, 1));
        refused(32, "lay: BAD lane ahead of NULL", BAD, x -> x.lay(0, 2, 4, FAR, 1));
        refused(32, "lay: NULL ahead of CAST, INDEX", NULL, x -> x.lay(0, 2, 0, FAR, 1));
        refused(32, "lay: CAST ahead of INDEX", CAST, x -> x.lay(0, 1, 0, FAR, 1));
        refused(32, "lay: INDEX ahead of NOT", INDEX, x -> x.lay(0, 1, 1, 0, 5));
        refused(33, "film: BAD lane ahead of NULL", BAD, x -> x.film(2, 4, FAR));
        refused(33, "film: NULL ahead of INDEX", NULL, x -> x.film(2, 0, FAR));
        refused(33, "film: CAST ahead of INDEX", CAST, x -> x.film(1, 0, FAR));
        refused(34, "miscounted: BAD n ahead of NULL", BAD, x -> x.miscounted(2, 0, FAR, 0));
        refused(34, "miscounted: NULL ahead of INDEX", NULL, x -> x.miscounted(2, 0, FAR, 12));
        refused(34, "miscounted: CAST ahead of INDEX", CAST, x -> x.miscounted(1, 0, FAR, 12));
        refused(35, "sheet: BAD sheet ahead of SIZE", BAD, x -> x.sheet(4, 0, -1));
        refused(35, "sheet: BAD lane ahead of SIZE", BAD, x -> x.sheet(0, 4, -1));
        refused(37, "item: BAD lane ahead of NULL", BAD, x -> x.item(2, 4, FAR, 9));
        refused(37, "item: NULL ahead of INDEX", NULL, x -> x.item(2, 0, FAR, 9));
        refused(37, "item: CAST ahead of INDEX", CAST, x -> x.item(1, 0, FAR, 9));
        refused(38, "copy: BAD ahead of NULL", BAD, x -> x.copy(2, FAR, 4, FAR, -1));
        refused(38, "copy: NULL ahead of INDEX", NULL, x -> x.copy(1, FAR, 2, FAR, -1));
        refused(38, "copy: CAST ahead of INDEX", CAST, x -> x.copy(1, FAR, 0, FAR, -1));
    }

    /** What is only asked changes nothing, either. */
    private static void asked() {
        leaves("8 told", x -> x.told(20, 3));
        for (int what = 0; what < 7; what++) {
            int w = what;
            leaves("13 count", x -> x.count(w));
            leaves("14 hole", x -> x.hole(20, w) + x.hole(0, w + 1));
        }
        leaves("15 cells", x -> x.cells(20, 0) + x.cells(20, 1) + x.cells(20, 2));
        leaves("16, 17 part, pays", x -> x.part(20, 3) + x.pays(2));
        leaves("18 worth", x -> x.worth(3));
        leaves("19 filled", x -> x.filled(x.count(2) - 1, 0) + x.filled(x.count(2) - 30, 1));
        leaves("20 split", x -> x.split(20, -1) + x.split(0, 0));
        leaves("21 dug", x -> x.dug(0, 20, -1) + x.dug(20, 35, 0));
        leaves("22 loophole", x -> x.loophole());
        leaves("23 roofs", x -> x.roofs(20));
        leaves("24 round", x -> x.round(20, -1));
        leaves("25 border", x -> x.border(0) + x.border(1));
        leaves("26 cut", x -> x.cut(20));
        leaves("27 books", x -> x.books(0b111111, -1, -1, 0) + x.books(0b111111L << 30, 5, -1, 1));
        leaves("34 miscounted", x -> x.miscounted(1, 1, 0, 2));
        leaves("38 copy of nothing", x -> x.copy(0, 6, 0, 0, 0));
    }

    private static void leaves(String what, ToLongFunction<HoleCounty> call) {
        leaves(RefusalTest::busy, what, RefusalTest::busy, call);
    }

    // ---- the document's own list

    private static void seenAll() throws Exception {
        Pattern promise = Pattern.compile("## Promise (\\d+): [^\n]*\n+([^\n]*)");
        Pattern refusal = Pattern.compile("\\b(BAD|NOT|FULL|NONE|NULL|CAST|INDEX|SIZE|FAULT)\\b");
        Path document = Path.of("../shared/DOC.md");
        if (!Files.exists(document)) {
            System.out.println("the document is not here: it was not asked");
            return;
        }
        Matcher promises = promise.matcher(Files.readString(document));
        int seen = 0;
        while (promises.find()) {
            seen++;
            Set<String> here = SEEN.getOrDefault(Integer.parseInt(promises.group(1)), Set.of());
            Matcher named = refusal.matcher(promises.group(2));
            while (named.find()) {
                CHECK.holds("promise " + promises.group(1) + " names " + named.group(), here.contains(named.group()));
            }
        }
        CHECK.is("promises of the document", seen, 38);
    }
}
