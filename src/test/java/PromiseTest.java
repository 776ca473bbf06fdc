/** The promises one by one: ordinary inputs, the edges that the document names, and wrong inputs. */
public final class PromiseTest {
    private static final int BAD = -1, NOT = -2, FULL = -3, NONE = -4, NULL = -11, CAST = -12, INDEX = -13, SIZE = -14;
    private static final int[] NO_CELL = {-1, 36, Integer.MIN_VALUE, Integer.MAX_VALUE};
    private static final int[] NO_SHEET = {-1, 4, Integer.MIN_VALUE, Integer.MAX_VALUE};
    /** A ring at the edge and four cells within it, as in the document's own tests. */
    private static final String RING = "111111/100001/101101/101101/100001/111111";
    private static final Check CHECK = new Check();

    public static void main(String[] args) {
        aNewObject();
        dig();
        fill();
        roof();
        undo();
        undoIsCleared();
        own();
        rate();
        told();
        type();
        ground();
        groundFaults();
        owners();
        day();
        dayFaults();
        count();
        kinds();
        hole();
        nested();
        cells();
        part();
        pays();
        worth();
        filled();
        split();
        dug();
        loophole();
        roofs();
        round();
        border();
        cut();
        books();
        booksWrong();
        lots();
        seed();
        image();
        lay();
        film();
        miscounted();
        sheet();
        drop();
        item();
        copy();
        CHECK.end("PromiseTest");
    }

    private static void is(String call, long got, long want) {
        CHECK.is(call, got, want);
    }

    // ---- promises 1 to 13

    private static void aNewObject() {
        HoleCounty x = new HoleCounty();
        for (int c = 0; c < 36; c++) {
            is("1 depth", x.told(c, 0), 0);
            is("1 roof", x.told(c, 1), 0);
            is("1 owner", x.told(c, 2), 4);
            is("1 hole", x.told(c, 3), NONE);
        }
        int[] counts = {0, 0, 0, 0, 2, 0, 0};
        for (int w = 0; w < 7; w++) {
            is("1 count " + w, x.count(w), counts[w]);
        }
        for (int s = 0; s < 4; s++) {
            is("1 sheet", x.drop(s), NULL);
        }
        is("1 tape", x.type(' '), 1);
        is("1 draw", x.seed(0), 1);
        is("1 image", x.restore(), NONE);
    }

    private static void dig() {
        HoleCounty x = new HoleCounty();
        for (int c : NO_CELL) {
            is("2 dig bad", x.dig(c), BAD);
        }
        for (int d = 1; d <= 9; d++) {
            is("2 dig", x.dig(35), d);
        }
        is("2 full", x.dig(35), FULL);
        is("2 stays", x.told(35, 0), 9);
        is("2 known", x.count(3), 9);
        is("2 cell 0", x.dig(0), 1);
        x.roof(0);
        is("2 again", x.dig(0), 2);
        is("2 keeps the roof", x.told(0, 1), 1);
    }

    private static void fill() {
        HoleCounty x = Check.county("000000/03^0000/000000/000000/000000/000009");
        for (int c : NO_CELL) {
            is("3 fill bad", x.fill(c), BAD);
        }
        is("3 not", x.fill(0), NOT);
        is("3 refused is not known", x.count(3), 0);
        is("3 roof ahead", x.told(7, 1), 1);
        is("3 fill", x.fill(7), 3);
        is("3 depth", x.told(7, 0), 0);
        is("3 roof goes", x.told(7, 1), 0);
        is("3 roofs", x.count(5), 0);
        is("3 fill 9", x.fill(35), 9);
        is("3 again", x.fill(35), NOT);
        x.dig(7);
        is("3 no roof comes back", x.told(7, 1), 0);
    }

    private static void roof() {
        HoleCounty x = new HoleCounty();
        for (int c : NO_CELL) {
            is("4 roof bad", x.roof(c), BAD);
        }
        is("4 not", x.roof(0), NOT);
        x.dig(0);
        is("4 on", x.roof(0), 1);
        is("4 told", x.told(0, 1), 1);
        is("4 off", x.roof(0), 0);
        is("4 told off", x.told(0, 1), 0);
        is("4 known", x.count(3), 3);
    }

    private static void undo() {
        HoleCounty x = new HoleCounty();
        is("5 none", x.undo(), NONE);
        for (int k = 0; k < 12; k++) {
            x.dig(k);
        }
        is("5 ten are known", x.count(3), 10);
        for (int k = 9; k >= 0; k--) {
            is("5 undo", x.undo(), k);
            is("5 undone", x.told(k + 2, 0), 0);
        }
        is("5 no more", x.undo(), NONE);
        is("5 older ones are lost", x.told(0, 0) + x.told(1, 0), 2);

        HoleCounty y = new HoleCounty();
        y.dig(8);
        y.dig(8);
        y.roof(8);
        y.fill(8);
        is("5 refused", y.fill(8), NOT);
        is("5 undo fill", y.undo(), 3);
        is("5 depth is back", y.told(8, 0), 2);
        is("5 roof is back", y.told(8, 1), 1);
        is("5 undo roof", y.undo(), 2);
        is("5 roof is off", y.told(8, 1), 0);
        y.roof(8);
        y.roof(8);
        is("5 undo roof off", y.undo(), 3);
        is("5 roof is on", y.told(8, 1), 1);
        y.own(8, 2);
        is("5 own is no repair", y.count(3), 3);
        y.undo();
        y.undo();
        is("5 first", y.undo(), 0);
        is("5 whole", y.count(6), 0);
        is("5 owner stays", y.told(8, 2), 2);
        HoleCounty z = Check.county("000000/09^0000/000000/000000/000000/000008");
        z.fill(7);
        z.dig(35);
        z.undo();
        z.undo();
        is("5 depth 9 is back", z.told(7, 0), 9);
        is("5 its roof", z.told(7, 1), 1);
        is("5 depth 8 is back", z.told(35, 0), 8);
        z.roof(7);
        is("5 it is a shaft again", z.hole(7, 1), 2);
    }

    private static void undoIsCleared() {
        HoleCounty x = new HoleCounty();
        x.dig(0);
        Check.typed(x, "0");
        x.ground();
        is("5 a fault leaves all", x.count(3), 1);
        Check.typed(x, RING);
        x.ground();
        is("5 ground", x.undo(), NONE);
        x.dig(0);
        x.lots(1);
        is("5 lots", x.undo(), NONE);
        x.dig(0);
        x.sheet(0, 0, 1);
        is("5 lay", x.lay(5, 0, 0, 0, 1), 1);
        is("5 laid", x.undo(), NONE);
        Check.typed(x, "d11;d12");
        x.day();
        is("5 a day's repairs are known", x.count(3), 2);
        is("5 day undone", x.undo(), 1);
        is("5 the latest", x.told(8, 0), 0);
        is("5 the first stays", x.told(7, 0), 1);
    }

    private static void own() {
        HoleCounty x = new HoleCounty();
        for (int c : NO_CELL) {
            is("6 bad cell", x.own(c, 0), BAD);
        }
        is("6 bad owner", x.own(0, -1), BAD);
        is("6 bad owner 5", x.own(0, 5), BAD);
        is("6 nobody", x.told(0, 2), 4);
        is("6 first", x.own(0, 3), 4);
        is("6 then", x.own(0, 0), 3);
        is("6 told", x.told(0, 2), 0);
        is("6 away", x.own(0, 4), 0);
        is("6 last cell", x.own(35, 1), 4);
    }

    private static void rate() {
        HoleCounty x = new HoleCounty();
        is("7 bad", x.rate(-1), BAD);
        is("7 bad 100", x.rate(100), BAD);
        is("7 stays", x.rate(99), 2);
        is("7 then", x.rate(0), 99);
        is("7 told", x.count(4), 0);
        x.dig(7);
        is("7 nothing", x.count(2), 0);
        x.rate(99);
        is("7 much", x.count(2), 99);
    }

    private static void told() {
        HoleCounty x = Check.county("000000/04^4000/040000/000000/000000/000009");
        x.own(7, 2);
        for (int c : NO_CELL) {
            is("8 bad", x.told(c, 0), BAD);
        }
        is("8 bad what", x.told(0, -1), BAD);
        is("8 bad what 4", x.told(0, 4), BAD);
        is("8 depth", x.told(7, 0), 4);
        is("8 roof", x.told(7, 1), 1);
        is("8 no roof", x.told(8, 1), 0);
        is("8 owner", x.told(7, 2), 2);
        is("8 least", x.told(13, 3), 7);
        is("8 last", x.told(35, 3), 35);
        is("8 none", x.told(0, 3), NONE);
    }

    private static void type() {
        HoleCounty x = new HoleCounty();
        is("9 bad", x.type(31), BAD);
        is("9 bad 127", x.type(127), BAD);
        is("9 bad below", x.type(Integer.MIN_VALUE), BAD);
        is("9 bad above", x.type(65536 + 48), BAD);
        is("9 first", x.type(32), 1);
        for (int n = 2; n <= 160; n++) {
            is("9 type", x.type(126), n);
        }
        is("9 full", x.type(126), FULL);
        is("9 bad ahead of full", x.type(127), BAD);
        is("9 fault", x.ground(), -21);
        is("9 empty then", x.type(126), 1);
    }

    private static void ground() {
        HoleCounty x = Check.typed(new HoleCounty(), "1^23000/000000/000000/000000/000000/00009^9^");
        is("10 holes", x.ground(), 2);
        is("10 depth", x.told(1, 0), 2);
        is("10 roof", x.told(0, 1), 1);
        is("10 last", x.told(35, 1), 1);
        is("10 roofs", x.count(5), 3);
        is("10 all", x.count(6), 24);
        is("10 the tape is empty", x.type('0'), 1);
        is("10 a fault", x.ground(), -21);
        is("10 all stays", x.count(6), 24);
        is("10 empty behind a fault", x.type('0'), 1);
        Check.typed(x, "00000/000000/000000/000000/000000/000001");
        is("10 in place of all", x.ground(), 1);
        is("10 roofs are gone", x.count(5), 0);
        is("10 depths are gone", x.count(6), 1);
    }

    private static void groundFaults() {
        String[] texts = {"", "   ", "x", " x", "000000", "000000 ", "000000/", "0000000", "00000/", "0^", "1^^", "^", "1 ^ ^",
            "000000/000000/000000/000000/000000/000000/", "000000/000000/000000/000000/000000/0000000",
            "000000/000000/000000/000000/000000/000000^", "000000/000000/000000/000000/000000/000001^^",
            "000000/000000/000000/000000/000000/00000", "000000//"};
        int[] places = {0, 3, 0, 1, 6, 7, 7, 6, 5, 1, 2, 0, 4, 41, 41, 41, 42, 40, 7};
        for (int k = 0; k < texts.length; k++) {
            HoleCounty x = Check.typed(new HoleCounty(), texts[k]);
            is("10 " + texts[k], x.ground(), -20 - places[k]);
        }
        is("10 blanks are passed over", Check.typed(new HoleCounty(),
                " 0 1 ^ 0000/000000/000000 /000000/ 000000/00000 0  ").ground(), 1);
    }

    private static void owners() {
        HoleCounty x = Check.typed(new HoleCounty(), "0123--/------/------/------/------/-----3");
        is("11 owners", x.owners(), 5);
        is("11 first", x.told(0, 2), 0);
        is("11 third", x.told(3, 2), 3);
        is("11 nobody", x.told(4, 2), 4);
        is("11 last", x.told(35, 2), 3);
        is("11 the tape is empty", x.type('-'), 1);
        String six = "------";
        Check.typed(x, "-----" + six + six + "/ " + six + six + " 11111-");
        is("11 slashes may be missing", x.owners(), 5);
        is("11 in place of all", x.told(0, 2), 4);
        String all = "222222222222222222222222222222222222";
        Object[][] faults = {{"", 0}, {"4", 0}, {"/", 0}, {"00/", 2}, {"000000//", 7}, {all + "/", 36}, {all + "2", 36},
            {all.substring(1), 35}, {all.substring(1) + " ", 36}, {"- - x", 4}, {"^", 0}, {"000000/", 7}};
        for (Object[] fault : faults) {
            Check.typed(x, (String) fault[0]);
            is("11 " + fault[0], x.owners(), -20 - (Integer) fault[1]);
        }
        is("11 all stays", x.told(34, 2), 1);
        x.dig(1);
        Check.typed(x, all);
        is("11 all owned", x.owners(), 36);
        is("11 repairs stay known", x.count(3), 1);
    }

    private static void day() {
        HoleCounty x = Check.typed(new HoleCounty(), "d00;d00;r00;d55;f00");
        is("12 day", x.day(), 5);
        is("12 filled", x.told(0, 0), 0);
        is("12 dug", x.told(35, 0), 1);
        is("12 known", x.count(3), 5);
        is("12 the tape is empty", x.type('d'), 1);
        Check.typed(x, "12; r13; d20");
        is("12 the first refused ends it", x.day(), 1);
        is("12 done ahead", x.told(8, 0), 1);
        is("12 not done behind", x.told(12, 0), 0);
        Check.typed(x, "f00");
        is("12 refused at once", x.day(), 0);
        StringBuilder most = new StringBuilder("d22");
        for (int k = 1; k < 40; k++) {
            most.append(k % 2 == 0 ? ";d22" : ";f22");
        }
        Check.typed(x, most.toString());
        is("12 forty", x.day(), 40);
        is("12 ten known", x.count(3), 10);
        Check.typed(x, most + ";");
        is("12 forty and nothing", x.day(), -180);
        is("12 nothing is done", x.told(14, 0), 0);
        Check.typed(x, "  d 3 3  ");
        is("12 blanks", x.day(), 1);
        is("12 row and column", x.told(21, 0), 1);
        Check.typed(x, "d25");
        x.day();
        is("12 row first", x.told(17, 0), 1);
        Check.typed(x, "r25;r25;d25;d25");
        is("12 a roof taken off is no refusal", x.day(), 4);
        is("12 dug behind it", x.told(17, 0), 3);
    }

    private static void dayFaults() {
        Object[][] faults = {{"", 0}, {" ", 1}, {"d", 1}, {"d0", 2}, {"x00", 0}, {"D00", 0}, {"d60", 1}, {"d06", 2}, {"d00;", 4},
            {"d00d00", 3}, {"d00;;", 4}, {"d00; ", 5}, {"d00;x", 4}, {";d00", 0}, {"d000", 3}};
        for (Object[] fault : faults) {
            HoleCounty x = Check.typed(new HoleCounty(), (String) fault[0]);
            is("12 " + fault[0], x.day(), -20 - (Integer) fault[1]);
            is("12 nothing is done", x.count(6) + x.count(3), 0);
            is("12 empty behind a fault", x.type('d'), 1);
        }
    }

    private static void count() {
        HoleCounty x = Check.county("1^00000/000000/000000/000000/000000/000000");
        is("13 bad", x.count(-1), BAD);
        is("13 bad 7", x.count(7), BAD);
        for (int k = 0; k < 3; k++) {
            x.dig(14);
        }
        x.dig(15);
        x.rate(3);
        int[] due = {2, 3, 10 + 6, 4, 3, 1, 5};
        for (int w = 0; w < 7; w++) {
            is("13 count " + w, x.count(w), due[w]);
        }
        is("13 most holes", Check.county("101010/010101/101010/010101/101010/010101").count(0), 18);
        is("13 all nines", Check.county("999999/999999/999999/999999/999999/999999").count(6), 324);
    }

    // ---- promises 14 to 26

    private static void kind(String ground, int cell, int kind, int tax) {
        HoleCounty x = Check.county(ground);
        is("14 kind of " + ground, x.hole(cell, 1), kind);
        is("14 tax of " + ground, x.hole(cell, 2), tax);
        is("13 tax of all of " + ground, x.count(2), tax);
    }

    private static void kinds() {
        kind("000000/010000/000000/000000/000000/000000", 7, 0, 2);
        kind("000000/011100/000000/000000/000000/000000", 9, 0, 6);
        kind("000000/011110/000000/000000/000000/000000", 9, 0, 10);
        kind("000000/018000/000000/000000/000000/000000", 7, 0, 4);
        kind("100000/000000/000000/000000/000000/000000", 0, 1, 1);
        kind("000000/000000/111100/000000/000000/000000", 12, 1, 5);
        kind("000009/000000/000000/000000/000000/000000", 5, 1, 1);
        kind("000000/019000/000000/000000/000000/000000", 7, 2, 14);
        kind("100000/100000/100000/100000/100000/100000", 0, 3, 9 + 14);
        kind("000000/000000/911111/000000/000000/000000", 12, 3, 9 + 14);
        kind("000000/000000/111110/000010/000010/000010", 12, 1, 13);
        kind("000000/01^0000/000000/000000/000000/000000", 7, 4, 2 + 10 - 3);
        kind("000000/01^1000/000000/000000/000000/000000", 7, 0, 4);
        kind("000000/09^9000/000000/000000/000000/000000", 7, 2, 14);
        kind("1^00000/000000/000000/000000/000000/000000", 0, 4, 9);
        kind("1^1^1^1^1^1^/000000/000000/000000/000000/000000", 0, 4, 18 + 10 - 18);
        HoleCounty x = Check.county("000000/01^1^1^1^0/000000/000000/000000/000000");
        is("14 rate 2", x.hole(7, 2), 10 + 10 - 12);
        x.rate(0);
        is("14 0 at least", x.hole(7, 2), 0);
        HoleCounty y = Check.county("100000/000000/000000/000000/000000/000000");
        y.rate(99);
        is("14 half is cut", y.hole(0, 2), 49);
    }

    private static void hole() {
        HoleCounty x = Check.county("000000/011100/010100/011100/000000/000001");
        for (int c : NO_CELL) {
            is("14 bad cell", x.hole(c, 0), BAD);
        }
        is("14 bad what", x.hole(0, -1), BAD);
        is("14 bad what 8", x.hole(0, 8), BAD);
        is("14 not", x.hole(0, 0), NOT);
        is("14 not in the middle", x.hole(14, 7), NOT);
        int[] due = {8, 0, 26, 16, 13, 4, 0, 1};
        for (int w = 0; w < 8; w++) {
            is("14 ring, what " + w, x.hole(21, w), due[w]);
        }
        is("14 fence at the edge", x.hole(35, 3), 4);
        is("14 rim in a corner", x.hole(35, 4), 2);
        x.own(14, 3);
        is("14 one owner of many cells", x.hole(7, 5), 3);
        x.own(1, 1);
        is("14 of like ones the least", x.hole(7, 5), 1);
        x.own(2, 3);
        is("14 most", x.hole(7, 5), 3);
        x.own(7, 0);
        x.own(8, 0);
        x.own(9, 0);
        is("14 cells of the hole do not count", x.hole(7, 5), 3);
        x.own(20, 4);
        x.own(3, 0);
        x.own(6, 0);
        is("14 owner 0", x.hole(7, 5), 0);
        is("14 largest", Check.county("111111/111111/111111/111111/111111/111111").hole(9, 7), 6);
        is("14 largest 5", Check.county("111111/111111/111111/111111/111110/111111").hole(9, 7), 5);
        is("14 largest 3", Check.county("000000/011100/011100/011100/000000/000000").hole(9, 7), 3);
        is("14 no square round the side", Check.county("100001/100001/000000/000000/000000/000000").hole(0, 7), 1);
        is("14 whole: fence", Check.county("111111/111111/111111/111111/111111/111111").hole(9, 3), 24);
        is("14 whole: rim", Check.county("111111/111111/111111/111111/111111/111111").hole(9, 4), 0);
    }

    private static void nested() {
        HoleCounty x = Check.county(RING);
        is("14 not nested", x.hole(0, 6), 0);
        is("14 nested", x.hole(14, 6), 1);
        HoleCounty y = Check.county("111110/100010/101010/100010/111110/000001");
        is("14 nested in one", y.hole(14, 6), 1);
        is("14 beside", y.hole(35, 6), 0);
        HoleCounty z = Check.county("100000/011111/010001/010101/010001/011111");
        is("14 nested in a later hole", z.hole(21, 6), 1);
        is("14 a first hole beside", z.hole(0, 6), 0);
        is("14 a corner lets nothing through", Check.county("011110/100010/101010/100010/111110/000000").hole(14, 6), 1);
        is("14 a side does", Check.county("101110/100010/101010/100010/111110/000000").hole(14, 6), 0);
        is("14 the county's edge is no fence", Check.county("001000/110000/000000/000000/000000/000000").hole(2, 6), 0);
    }

    private static void cells() {
        HoleCounty x = Check.county("000000/011100/010100/011100/000000/000001");
        for (int c : NO_CELL) {
            is("15 bad cell", x.cells(c, 0), BAD);
        }
        is("15 bad what", x.cells(7, -1), BAD);
        is("15 bad what 3", x.cells(7, 3), BAD);
        is("15 not", x.cells(14, 0), NOT);
        is("15 cells", x.cells(9, 0), Check.set(7, 8, 9, 13, 15, 19, 20, 21));
        is("15 rim", x.cells(9, 1), Check.set(1, 2, 3, 6, 10, 12, 14, 16, 18, 22, 25, 26, 27));
        is("15 within", x.cells(9, 2), Check.set(14));
        is("15 corner", x.cells(35, 0), 1L << 35);
        is("15 rim of it", x.cells(35, 1), Check.set(29, 34));
        is("15 nothing within", x.cells(35, 2), 0);
        HoleCounty y = Check.county(RING);
        is("15 holes lie within, too", y.cells(0, 2) & y.cells(14, 0), y.cells(14, 0));
        is("15 within all of it", Long.bitCount(y.cells(0, 2)), 16);
        is("15 corners do not let through", Check.county("000000/001000/010100/001000/000000/000000").cells(8, 2), 0);
    }

    private static void part() {
        HoleCounty x = Check.county("000000/010000/000000/000000/000000/000000");
        x.rate(10);
        for (int c : NO_CELL) {
            is("16 bad cell", x.part(c, 0), BAD);
        }
        is("16 bad owner", x.part(7, -1), BAD);
        is("16 nobody is no owner", x.part(7, 4), BAD);
        is("16 not", x.part(0, 0), NOT);
        is("16 nobody owns", x.part(7, 0), 0);
        x.own(1, 0);
        is("16 one owner pays all", x.part(7, 0), 10);
        x.own(6, 1);
        x.own(8, 1);
        is("16 a third, cut", x.part(7, 0), 3);
        is("16 two thirds, cut", x.part(7, 1), 6);
        is("16 not on the rim", x.part(7, 2), 0);
        x.own(7, 2);
        is("16 his own hole is no rim", x.part(7, 2), 0);
        x.own(13, 3);
        is("16 a fourth, cut", x.part(7, 3), 2);
        is("16 half", x.part(7, 1), 5);
    }

    private static void pays() {
        HoleCounty x = Check.county("000000/010100/000000/000000/000000/000000");
        x.rate(5);
        is("17 bad", x.pays(-1), BAD);
        is("17 nobody is no owner", x.pays(4), BAD);
        is("17 nothing", x.pays(0), 0);
        x.own(8, 2);
        is("17 both", x.pays(2), 10);
        x.own(1, 1);
        is("17 each is cut", x.pays(1), 2);
        is("17 then", x.pays(2), 2 + 5);
        x.own(3, 1);
        is("17 cut twice", x.pays(1), 4);
        HoleCounty corner = Check.county("100000/000000/000000/000000/000000/000000");
        corner.own(1, 3);
        is("17 of a corner", corner.pays(3), 1);
    }

    private static void worth() {
        HoleCounty x = Check.county("000000/011100/000000/000000/000000/000001");
        is("18 bad", x.worth(-1), -100001);
        is("18 bad 4", x.worth(4), -100001);
        is("18 nothing", x.worth(3), 0);
        x.own(35, 3);
        is("18 a gap", x.worth(3), 1);
        x.own(7, 1);
        x.own(0, 1);
        is("18 a cell of three", x.worth(1), 2);
        x.own(8, 2);
        x.rate(9);
        is("18 two are left", x.worth(2), 9);
        HoleCounty y = Check.county("000000/001000/000000/001000/001000/001000");
        y.own(32, 0);
        is("18 below 0", y.worth(0), 2 + 3 - 2 - 4);
        y.own(26, 0);
        is("18 two cells", y.worth(0), 2 + 3 - 2 - 2);
    }

    private static void filled() {
        HoleCounty x = Check.county("000000/011000/000000/000110/000000/000000");
        is("19 bad", x.filled(-1, -1), BAD);
        is("19 bad 10000", x.filled(10000, -1), BAD);
        is("19 bad i", x.filled(0, -2), BAD);
        is("19 bad i 2", x.filled(0, 2), BAD);
        is("19 none needed", x.filled(8, -1), 0);
        is("19 no 0-th", x.filled(8, 0), NONE);
        is("19 most", x.filled(9999, -1), 0);
        is("19 one", x.filled(7, -1), 1);
        is("19 the first", x.filled(7, 0), 7);
        is("19 no second", x.filled(6, 1), NONE);
        is("19 two", x.filled(4, -1), 2);
        is("19 two, first", x.filled(4, 0), 7);
        is("19 two, second", x.filled(4, 1), 8);
        is("19 by no two", x.filled(3, -1), NONE);
        is("19 by no two, i", x.filled(3, 1), NONE);
        is("19 nothing is changed", x.count(1), 4);
        is("19 nor known", x.count(3), 0);
        HoleCounty one = Check.county("200000/000000/000000/000000/000000/000000");
        is("19 no tax at all", one.filled(0, -1), 1);
        is("19 cell 0", one.filled(0, 0), 0);
        HoleCounty ends = Check.county("200000/000000/000000/000000/000000/000002");
        is("19 both corners", ends.filled(0, 0) * 100 + ends.filled(0, 1), 35);
        HoleCounty last = Check.county("000000/000000/000000/000000/000000/000022");
        is("19 the last two", last.filled(0, 0) * 100 + last.filled(0, 1), 3435);
        HoleCounty y = Check.county("000000/011000/000000/000190/000000/000000");
        is("19 tax with a shaft", y.count(2), 18);
        is("19 the shaft's cell", y.filled(6, 0), 22);
        is("19 the least pair", y.filled(4, 0), 7);
        is("19 the least pair, second", y.filled(4, 1), 22);
        is("19 a rising row, not the cheapest", y.filled(5, 1), 22);
    }

    private static void split() {
        HoleCounty x = Check.county("000000/011110/000000/000110/000110/000000");
        for (int c : NO_CELL) {
            is("20 bad", x.split(c, -1), BAD);
        }
        is("20 bad i", x.split(7, -2), BAD);
        is("20 bad i 2", x.split(7, 2), BAD);
        is("20 not", x.split(0, -1), NOT);
        is("20 one", x.split(10, -1), 1);
        is("20 the least", x.split(10, 0), 8);
        is("20 no second", x.split(10, 1), NONE);
        is("20 two", x.split(28, -1), 2);
        is("20 two, first", x.split(28, 0), 21);
        is("20 two, second", x.split(28, 1), 28);
        is("20 nothing is changed", x.hole(7, 0), 4);
        HoleCounty y = Check.county("100110/000000/000000/000000/000000/000000");
        is("20 a single cell", y.split(0, -1), NONE);
        is("20 two cells", y.split(3, -1), NONE);
        is("20 two cells, i", y.split(3, 0), NONE);
        HoleCounty all = Check.county("111111/111111/111111/111111/111111/111111");
        is("20 a corner of the whole", all.split(20, -1), 2);
        is("20 its first", all.split(20, 0), 1);
        is("20 its second", all.split(20, 1), 6);
        HoleCounty thick = Check.county("000000/011100/011100/011100/000000/000000");
        is("20 of a square", thick.split(14, 0) * 100 + thick.split(14, 1), 813);
        is("20 cell 0", Check.county("110000/100000/000000/000000/000000/000000").split(1, 0), 0);
        is("20 cell 34", Check.county("000000/000000/000000/000000/000000/000111").split(33, 0), 34);
        HoleCounty ring = Check.county(RING);
        is("20 of a ring", ring.split(35, 0) * 100 + ring.split(35, 1), 2);
    }

    private static void dug() {
        HoleCounty x = Check.county("100000/000000/000000/000000/000000/000001");
        for (int c : NO_CELL) {
            is("21 bad", x.dug(c, 0, -1), BAD);
            is("21 bad b", x.dug(0, c, -1), BAD);
        }
        is("21 bad i", x.dug(0, 35, -2), BAD);
        is("21 bad i 10", x.dug(0, 35, 10), BAD);
        is("21 one is none", x.dug(0, 1, -1), NOT);
        is("21 the other is none", x.dug(1, 0, -1), NOT);
        is("21 both are one", x.dug(0, 0, -1), NOT);
        is("21 nine", x.dug(0, 35, -1), 9);
        int[] row = {1, 2, 3, 4, 5, 11, 17, 23, 29};
        for (int i = 0; i < 9; i++) {
            is("21 by the upper edge " + i, x.dug(0, 35, i), row[i]);
            is("21 the other way " + i, x.dug(35, 0, i), row[i]);
        }
        is("21 no tenth", x.dug(0, 35, 9), NONE);
        is("21 nothing is changed", x.count(1), 2);
        HoleCounty y = Check.county("100000/000000/100000/000000/000111/000000");
        is("21 other holes help", y.dug(0, 29, -1), 5);
        int[] through = {6, 13, 14, 15, 21};
        for (int i = 0; i < 5; i++) {
            is("21 through another hole " + i, y.dug(0, 27, i), through[i]);
        }
        is("21 no sixth", y.dug(0, 27, 5), NONE);
        is("21 cell 0", Check.county("010000/100000/000000/000000/000000/000000").dug(1, 6, 0), 0);
        is("21 both are one, far apart", Check.county("111111/111111/111111/111111/111101/111110").dug(0, 29, -1), NOT);
        is("21 around a corner", Check.county("000000/000000/000000/000000/000001/000010").dug(29, 34, 0), 28);
        HoleCounty ring = Check.county(RING);
        is("21 ring", ring.dug(14, 0, -1) * 100 + ring.dug(14, 0, 0), 108);
    }

    private static void loophole() {
        is("22 none", new HoleCounty().loophole(), NONE);
        is("22 whole", Check.county("111111/111111/111111/111111/111111/111111").loophole(), NONE);
        HoleCounty x = Check.county("000000/011100/000000/000000/000000/000000");
        is("22 tax", x.count(2), 6);
        is("22 the least of like ones", x.loophole(), 1);
        is("22 nothing is changed", x.count(1), 3);
        HoleCounty y = Check.county("000000/000000/001100/000000/000000/000000");
        is("22 more is no loophole", y.loophole(), NONE);
        HoleCounty z = Check.county("000000/000000/009000/000000/000000/000000");
        is("22 a shaft stays one", z.loophole(), NONE);
        HoleCounty w = Check.county("000000/009000/000000/000000/000000/000000");
        is("22 a shaft to the edge", w.loophole(), 2);
        HoleCounty v = Check.county("000000/01^0000/000000/000000/000000/000000");
        is("22 an absence to the edge", v.loophole(), 1);
        HoleCounty u = Check.county("000000/000000/001^000/000000/000000/000000");
        is("22 an absence undone", u.loophole(), 8);
        is("22 cell 0", Check.county("01^0000/000000/000000/000000/000000/000000").loophole(), 0);
        is("22 cell 0 is dug", Check.county("1^00000/000000/000000/000000/000000/000000").loophole(), 1);
        is("22 a late cell", Check.county("000000/000000/000000/000000/000001^/00001^1^").loophole(), 23);
    }

    private static void roofs() {
        HoleCounty x = Check.county("000000/01^1100/000000/000000/000000/01^0000");
        for (int c : NO_CELL) {
            is("23 bad", x.roofs(c), BAD);
        }
        is("23 not", x.roofs(0), NOT);
        is("23 two", x.roofs(7), 2);
        is("23 none", x.roofs(31), 0);
        x.roof(7);
        is("23 three", x.roofs(9), 3);
        for (int c = 7; c < 10; c++) {
            x.roof(c);
        }
        is("23 all", x.roofs(8), 0);
        is("23 is an absence", x.hole(8, 1), 4);
    }

    private static void round() {
        HoleCounty x = new HoleCounty();
        for (int c : NO_CELL) {
            is("24 bad", x.round(c, -1), BAD);
        }
        is("24 bad i", x.round(0, -2), BAD);
        is("24 bad i 8", x.round(0, 8), BAD);
        is("24 no hole", x.round(35, -1), 0);
        is("24 no hole, i", x.round(35, 0), NONE);
        x.dig(14);
        is("24 one hole", x.round(35, -1), 6);
        is("24 one hole, first", x.round(35, 0), 14);
        is("24 one hole, no second", x.round(35, 1), NONE);
        HoleCounty y = Check.county("100000/000000/000000/000000/000000/100001");
        is("24 it stays where it is", y.round(30, -1), 5 + 10);
        is("24 like rows: the first", y.round(30, 0), 0);
        is("24 second", y.round(30, 1), 30);
        is("24 third", y.round(30, 2), 35);
        is("24 no fourth", y.round(30, 3), NONE);
        is("24 from the corner", y.round(0, -1), 10);
        is("24 from the corner, last", y.round(0, 2), 35);
        is("24 from elsewhere", y.round(5, -1), 15);
        is("24 from elsewhere, first", y.round(5, 0), 0);
        HoleCounty ring = Check.county(RING);
        is("24 like rows, by their least cells", ring.round(7, 0) * 100 + ring.round(7, 1), 14);
        HoleCounty z = Check.county("010000/000000/100000/000000/000000/000000");
        is("24 nearest", z.round(6, -1), 1 + 3);
        is("24 nearest is first", z.round(6, 0), 12);
        HoleCounty eight = Check.county("101010/000000/101010/000000/101000/000000");
        is("24 eight", eight.round(0, -1), 14);
        is("24 the eighth", eight.round(0, 7), 26);
        is("24 nothing is changed", eight.count(0), 8);
        HoleCounty nine = Check.county("101010/000000/101010/000000/101010/000000");
        is("24 nine", nine.round(0, -1), FULL);
        is("24 nine, i", nine.round(0, 0), FULL);
        is("24 bad ahead of full", nine.round(36, 0), BAD);
        // 8 and 13 are as near: from 8, the lesser one, the way on is the longer one
        HoleCounty ties = Check.county("000000/011000/010000/000000/100000/000000");
        is("24 of like cells the least", ties.round(14, -1), 1 + 5);
    }

    private static void border() {
        HoleCounty x = Check.county("000000/010000/000000/001100/000000/110000");
        is("25 bad", x.border(-1), BAD);
        is("25 bad 2", x.border(2), BAD);
        is("25 least cell of like ones", x.border(0), 20);
        is("25 fence", x.border(1), 6);
        x.dig(32);
        is("25 most cells", x.border(0), 30);
        is("25 its fence", x.border(1), 8);
        HoleCounty corner = Check.county("100000/000000/000000/000000/000000/000000");
        is("25 a corner", corner.border(0) * 10 + corner.border(1), 4);
        is("25 single cells", Check.county("000000/010100/000000/000000/000000/000000").border(0), 7);
        HoleCounty none = new HoleCounty();
        is("25 none", none.border(0), NONE);
        is("25 none 1", none.border(1), NONE);
        is("25 bad ahead of none", none.border(2), BAD);
    }

    private static void cut() {
        HoleCounty x = Check.county("110000/100000/000000/000000/011101/011101");
        for (int c : NO_CELL) {
            is("26 bad", x.cut(c), BAD);
        }
        is("26 not", x.cut(35 - 1), NOT);
        is("26 the missing corner", x.cut(0), 7);
        is("26 no one cell", x.cut(25), NONE);
        is("26 what it is joined with counts", x.cut(29), 28);
        is("26 nothing is changed", x.count(1), 11);
        HoleCounty y = Check.county("000000/011000/000000/000000/000000/000000");
        is("26 none", y.cut(7), NONE);
        HoleCounty z = Check.county("000000/001100/011000/000000/000000/000000");
        is("26 the least", z.cut(8), 7);
        is("26 cell 0", Check.county("010000/110000/000000/000000/000000/000000").cut(6), 0);
        is("26 cell 35", Check.county("000000/000000/000000/000000/000011/000010").cut(28), 35);
        is("26 whole", Check.county("111111/111111/111111/111111/111111/111111").cut(0), NONE);
    }

    // ---- promises 27 to 31

    private static void books() {
        HoleCounty x = Check.county("000000/010100/000000/000000/000000/000000");
        is("27 nothing unknown", x.books(0, -1, -1, 0), 1);
        is("27 as it is", x.books(0, 2, 4, 0), 1);
        is("27 not as it is", x.books(0, 3, -1, 0), 0);
        is("27 nor the tax", x.books(0, -1, 5, 0), 0);
        long set = Check.set(7, 8, 9);
        is("27 two holes of three cells", x.books(set, 2, -1, 0), 1);
        is("27 which", x.books(set, 2, -1, 1), Check.set(7, 9));
        is("27 sure", x.books(set, 2, -1, 2), Check.set(7, 9));
        is("27 free", x.books(set, 2, -1, 3), Check.set(8));
        is("27 one hole", x.books(set, 1, -1, 0), 6);
        is("27 least set", x.books(set, 1, -1, 1), Check.set(7));
        is("27 nothing sure", x.books(set, 1, -1, 2), 0);
        is("27 nothing free", x.books(set, 1, -1, 3), 0);
        is("27 one of two cells", x.books(set, 1, 4, 0), 2);
        is("27 sure of both", x.books(set, 1, 4, 2), Check.set(8));
        is("27 free of both", x.books(set, 1, 4, 3), 0);
        is("27 no way", x.books(set, 3, -1, 1), NONE);
        is("27 no way, sure", x.books(set, 3, -1, 2), NONE);
        is("27 no way, free", x.books(set, 3, -1, 3), NONE);
        is("27 no way, how many", x.books(set, 3, -1, 0), 0);
        is("27 no hole at all", x.books(set, 0, 0, 1), 0);
        is("27 no hole, in one way", x.books(set, 0, -1, 0), 1);
        is("27 no tax, in one way", x.books(set, -1, 0, 0), 1);
        is("27 cell 0 is free", x.books(Check.set(0), 2, -1, 3), Check.set(0));
        is("27 six cells", x.books(Check.set(0, 2, 4, 24, 26, 35), -1, -1, 0), 64);
        is("27 nothing is changed", x.count(6), 2);
        HoleCounty deep = Check.county("000000/09^0900/000000/000000/000000/000000");
        is("27 depth 1, not 9", deep.books(Check.set(9), 2, 9 + 10 - 8, 0), 1);
        is("27 the roof it has", deep.books(Check.set(7), 2, 12 + 9, 1), Check.set(7));
        is("27 others are as they are", deep.books(Check.set(0), 2, 9 + 12, 1), 0);
    }

    private static void booksWrong() {
        HoleCounty x = new HoleCounty();
        is("27 cell 36", x.books(1L << 36, -1, -1, 0), BAD);
        is("27 below 0", x.books(-1L, -1, -1, 0), BAD);
        is("27 bit 63", x.books(Long.MIN_VALUE, -1, -1, 0), BAD);
        is("27 seven cells", x.books(127, -1, -1, 0), BAD);
        is("27 cell 35", x.books(1L << 35, 1, 1, 1), 1L << 35);
        is("27 holes", x.books(0, -2, -1, 0), BAD);
        is("27 holes 37", x.books(0, 37, -1, 0), BAD);
        is("27 holes 36", x.books(0, 36, -1, 0), 0);
        is("27 tax", x.books(0, -1, -2, 0), BAD);
        is("27 tax 10000", x.books(0, -1, 10000, 0), BAD);
        is("27 tax 9999", x.books(0, -1, 9999, 0), 0);
        is("27 what", x.books(0, -1, -1, -1), BAD);
        is("27 what 4", x.books(0, -1, -1, 4), BAD);
    }

    private static void lots() {
        HoleCounty x = new HoleCounty();
        is("28 bad", x.lots(0), BAD);
        is("28 bad 100", x.lots(100), BAD);
        is("28 bad below", x.lots(-1), BAD);
        is("28 no draw by what is refused", x.seed(1), 1);
        // 1 becomes 1103527590, that 377401575: 16838 and 5758
        is("28 a year", x.lots(1), 1);
        is("28 the cell", x.told(16838 % 36, 0), 1);
        is("28 two draws", x.seed(662824084), 377401575);
        // 662824084 becomes 1147902781 (17515: cell 19), that 2035015474 (31051: 3)
        is("28 by another draw", x.lots(1), 1);
        is("28 dug", x.told(17515 % 36, 0), 1);
        is("28 most years", x.lots(99) > 0 ? 1 : 0, 1);
        lotsByHand();
    }

    /** The same years once more, by the document's own words. */
    private static void lotsByHand() {
        HoleCounty x = Check.county("999999/000000/999999/000000/9^9^9^999/000000");
        int[] depth = new int[36];
        for (int c = 0; c < 36; c++) {
            depth[c] = c / 6 % 2 == 0 ? 9 : 0;
        }
        long draw = 77;
        x.seed(77);
        for (int run = 0; run < 6; run++) {
            int due = 0;
            for (int year = 0; year < 60 + run; year++) {
                draw = draw * 1103515245 + 12345 & 0x7FFFFFFFL;
                int cell = (int) (draw / 65536 % 36);
                draw = draw * 1103515245 + 12345 & 0x7FFFFFFFL;
                boolean fills = draw / 65536 % 4 == 0;
                if (fills && depth[cell] > 0) {
                    depth[cell] = 0;
                    due += 100;
                } else if (!fills && depth[cell] < 9) {
                    depth[cell]++;
                    due++;
                }
            }
            is("28 lots", x.lots(60 + run), due);
            for (int c = 0; c < 36; c++) {
                is("28 cell " + c, x.told(c, 0), depth[c]);
                is("28 roofs go with what is filled", depth[c] == 0 ? x.told(c, 1) : 0, 0);
            }
        }
        is("28 the draw", x.seed(0), draw);
    }

    private static void seed() {
        HoleCounty x = new HoleCounty();
        is("29 bad", x.seed(-1), BAD);
        is("29 bad least", x.seed(Integer.MIN_VALUE), BAD);
        is("29 first", x.seed(Integer.MAX_VALUE), 1);
        is("29 then", x.seed(0), Integer.MAX_VALUE);
        is("29 0", x.seed(5), 0);
    }

    private static void image() {
        HoleCounty x = new HoleCounty();
        is("31 none", x.restore(), NONE);
        x.dig(7);
        x.roof(7);
        x.own(1, 2);
        x.rate(5);
        x.seed(99);
        x.sheet(0, 2, 3);
        x.type('d');
        is("30 image", x.image(), 1);
        x.fill(7);
        x.dig(0);
        x.own(1, 3);
        x.rate(6);
        x.lots(3);
        x.drop(0);
        x.sheet(1, 1, 4);
        x.type('0');
        is("31 restore", x.restore(), 1);
        is("31 depth", x.told(7, 0), 1);
        is("31 roof", x.told(7, 1), 1);
        is("31 the other", x.count(6), 1);
        is("31 owner", x.told(1, 2), 2);
        is("31 rate", x.count(4), 5);
        is("31 known", x.count(3), 2);
        is("31 draw", x.seed(3), 99);
        is("31 the tape stays", x.type('0'), 3);
        is("31 sheets stay", x.drop(0), NULL);
        is("31 sheets stay 1", x.drop(1), 4);
        is("31 undo", x.undo(), 1);
        is("31 undone", x.told(7, 1), 0);
        x.dig(20);
        is("31 again", x.restore(), 1);
        is("31 again as it was", x.told(7, 1) + x.count(3), 3);
        x.undo();
        x.undo();
        is("31 the image is not touched", x.restore(), 1);
        is("31 roof again", x.told(7, 1), 1);
        is("31 holes", x.count(0), 1);
        x.fill(7);
        x.dig(0);
        x.dig(0);
        x.restore();
        is("31 no hole else", x.told(0, 3), NONE);
        is("31 the hole", x.hole(7, 0), 1);
        is("31 what was known", x.undo() * 10 + x.told(7, 1), 10);
        x.restore();
        x.fill(7);
        is("30 a later image", x.image(), 1);
        x.restore();
        is("31 the later one", x.told(7, 0), 0);
        HoleCounty deep = Check.county("000000/090000/000000/000000/000000/000000");
        deep.image();
        deep.fill(7);
        deep.dig(7);
        deep.restore();
        is("31 a shaft again", deep.hole(7, 1), 2);
        deep.fill(7);
        deep.dig(7);
        deep.image();
        deep.restore();
        is("31 no shaft", deep.hole(7, 1), 0);
    }

    // ---- promises 32 to 38

    private static HoleCounty laid(int lane, long... items) {
        HoleCounty x = new HoleCounty();
        x.sheet(0, lane, items.length);
        for (int i = 0; i < items.length; i++) {
            x.item(0, lane, i, items[i]);
        }
        return x;
    }

    private static void lay() {
        HoleCounty x = laid(3, 1, 0, 9, 10, -1, 1L << 32);
        for (int c : NO_CELL) {
            is("32 bad cell", x.lay(c, 0, 3, 0, 1), BAD);
        }
        for (int s : NO_SHEET) {
            is("32 bad sheet", x.lay(0, s, 3, 0, 1), BAD);
            is("32 bad lane", x.lay(0, 0, s, 0, 1), BAD);
        }
        is("32 bad n", x.lay(0, 0, 3, 0, 0), BAD);
        is("32 bad n 37", x.lay(0, 0, 3, 0, 37), BAD);
        is("32 beyond", x.lay(34, 0, 3, 0, 3), BAD);
        is("32 bad ahead of null", x.lay(35, 1, 3, 0, 2), BAD);
        is("32 null", x.lay(0, 1, 3, -1, 1), NULL);
        is("32 cast", x.lay(0, 0, 2, -1, 1), CAST);
        is("32 index", x.lay(0, 0, 3, -1, 1), INDEX);
        is("32 index beyond", x.lay(0, 0, 3, 4, 3), INDEX);
        is("32 index far", x.lay(0, 0, 3, Integer.MAX_VALUE, 2), INDEX);
        is("32 not 10", x.lay(0, 0, 3, 2, 2), NOT);
        is("32 not -1", x.lay(0, 0, 3, 4, 1), NOT);
        is("32 not 2 to the 32nd", x.lay(0, 0, 3, 5, 1), NOT);
        is("32 what is refused changes nothing", x.count(6), 0);
        x.dig(34);
        x.roof(34);
        x.dig(33);
        x.roof(33);
        is("32 refused: still known", x.lay(33, 0, 3, 1, 3) * 10 + x.count(3), -16);
        is("32 lay", x.lay(33, 0, 3, 0, 3), 3);
        is("32 first", x.told(33, 0), 1);
        is("32 a roof over a depth stays", x.told(33, 1), 1);
        is("32 second", x.told(34, 0), 0);
        is("32 its roof goes", x.told(34, 1), 0);
        is("32 third", x.told(35, 0), 9);
        is("32 nothing may be undone", x.undo(), NONE);
        HoleCounty y = new HoleCounty();
        y.sheet(2, 0, 36);
        is("32 most", y.lay(0, 2, 0, 0, 36), 36);
    }

    private static void film() {
        HoleCounty x = Check.county("000000/010100/000000/011100/000000/000001");
        x.rate(99);
        x.sheet(0, 3, 4);
        for (int s : NO_SHEET) {
            is("33 bad sheet", x.film(s, 3, 0), BAD);
            is("33 bad lane", x.film(0, s, 0), BAD);
        }
        is("33 null", x.film(1, 3, 0), NULL);
        is("33 cast", x.film(0, 2, 0), CAST);
        is("33 index", x.film(0, 3, 1), INDEX);
        is("33 index below", x.film(0, 3, -1), INDEX);
        is("33 film", x.film(0, 3, 0), 4);
        // what is on a sheet shows by a census: 99 names no cell, so make the taxes small
        x.rate(3);
        x.sheet(0, 0, 5);
        is("33 from one on", x.film(0, 0, 1), 4);
        HoleCounty y = new HoleCounty();
        y.sheet(0, 0, 0);
        is("33 no hole", y.film(0, 0, 0), 0);
        HoleCounty z = Check.county("000000/010000/000000/000000/000000/000001");
        z.sheet(0, 1, 3);
        z.rate(9);
        z.film(0, 1, 1);
        is("33 taxes as depths", z.lay(12, 0, 1, 0, 3), 3);
        is("33 ahead", z.told(12, 0), 0);
        is("33 first", z.told(13, 0), 9);
        is("33 second", z.told(14, 0), 4);
        HoleCounty behind = Check.county("000000/010000/000000/000000/000000/000000");
        behind.sheet(0, 1, 2);
        behind.item(0, 1, 1, 7);
        behind.film(0, 1, 0);
        is("33 nothing behind the last hole", behind.lay(20, 0, 1, 0, 2), 2);
        is("33 its tax", behind.told(20, 0), 2);
        is("33 what stood behind stays", behind.told(21, 0), 7);
        // three cells of rate 86 are 258: its lowest byte is 2
        HoleCounty w = Check.county("000000/011100/000000/000000/000000/000000");
        w.rate(86);
        w.sheet(3, 0, 1);
        w.film(3, 0, 0);
        is("33 lowest bits", w.lay(20, 3, 0, 0, 1), 1);
        is("33 a byte of it", w.told(20, 0), 2);
    }

    private static void miscounted() {
        HoleCounty x = laid(2, 7, 2, 8, 2, 0, 1, 20, 1, 20, 0, 99, 0);
        x.dig(7);
        x.dig(8);
        x.dig(20);
        for (int s : NO_SHEET) {
            is("34 bad sheet", x.miscounted(s, 2, 0, 1), BAD);
            is("34 bad lane", x.miscounted(0, s, 0, 1), BAD);
        }
        is("34 bad n", x.miscounted(0, 2, 0, 0), BAD);
        is("34 bad n 13", x.miscounted(0, 2, 0, 13), BAD);
        is("34 null", x.miscounted(1, 2, 0, 1), NULL);
        is("34 cast", x.miscounted(0, 1, 0, 1), CAST);
        is("34 index", x.miscounted(0, 2, -1, 1), INDEX);
        is("34 index beyond", x.miscounted(0, 2, 1, 6), INDEX);
        is("34 index half", x.miscounted(0, 2, 11, 1), INDEX);
        is("34 right", x.miscounted(0, 2, 0, 2), NONE);
        is("34 no hole there", x.miscounted(0, 2, 0, 3), 2);
        is("34 the first", x.miscounted(0, 2, 4, 4), 0);
        is("34 another number", x.miscounted(0, 2, 6, 2), 1);
        is("34 no cell", x.miscounted(0, 2, 10, 1), 0);
        is("34 all six", x.miscounted(0, 2, 0, 6), 2);
        HoleCounty y = laid(3, (1L << 32) + 7, 1, 7, (1L << 32) + 1, -1, 0);
        y.dig(7);
        is("34 a long is no cell", y.miscounted(0, 3, 0, 1), 0);
        is("34 a long is no number", y.miscounted(0, 3, 2, 1), 0);
        is("34 below 0", y.miscounted(0, 3, 4, 1), 0);
        HoleCounty edges = laid(0, 0, 1, 35, 1, 36, 1);
        edges.dig(0);
        edges.dig(35);
        is("34 cells 0 and 35", edges.miscounted(0, 0, 0, 2), NONE);
        is("34 cell 36", edges.miscounted(0, 0, 0, 3), 2);
        HoleCounty z = new HoleCounty();
        z.sheet(1, 0, 24);
        is("34 twelve", z.miscounted(1, 0, 0, 12), 0);
    }

    private static void sheet() {
        HoleCounty x = new HoleCounty();
        for (int s : NO_SHEET) {
            is("35 bad sheet", x.sheet(s, 0, 1), BAD);
            is("35 bad lane", x.sheet(0, s, 1), BAD);
        }
        is("35 bad n", x.sheet(0, 0, 37), BAD);
        is("35 size", x.sheet(0, 0, -1), SIZE);
        is("35 size least", x.sheet(0, 0, Integer.MIN_VALUE), SIZE);
        is("35 bad ahead of size", x.sheet(4, 0, -1), BAD);
        is("35 refused changes nothing", x.drop(0), NULL);
        is("35 most", x.sheet(3, 3, 36), 36);
        is("35 least", x.sheet(0, 0, 0), 0);
        is("35 an empty row is one", x.drop(0), 0);
        x.item(3, 3, 35, 9);
        is("35 a new row", x.sheet(3, 3, 36), 36);
        x.dig(0);
        is("35 of nothing", x.lay(0, 3, 3, 35, 1) + x.told(0, 0), 1);
        x.item(3, 3, 0, 9);
        x.sheet(3, 3, 36);
        x.dig(0);
        is("35 of nothing from its first on", x.lay(0, 3, 3, 0, 1) + x.told(0, 0), 1);
        is("35 of another lane", x.sheet(3, 0, 2), 2);
        is("35 the lane", x.item(3, 3, 0, 1), CAST);
        is("35 size leaves the old row", x.sheet(3, 1, -1) + x.item(3, 0, 1, 1), SIZE + 1);
    }

    private static void drop() {
        HoleCounty x = new HoleCounty();
        for (int s : NO_SHEET) {
            is("36 bad", x.drop(s), BAD);
        }
        is("36 null", x.drop(2), NULL);
        x.sheet(2, 1, 17);
        x.sheet(3, 1, 18);
        is("36 drop", x.drop(2), 17);
        is("36 again", x.drop(2), NULL);
        is("36 the other stays", x.drop(3), 18);
    }

    private static void item() {
        HoleCounty x = new HoleCounty();
        x.sheet(1, 1, 3);
        for (int s : NO_SHEET) {
            is("37 bad sheet", x.item(s, 1, 0, 1), BAD);
            is("37 bad lane", x.item(1, s, 0, 1), BAD);
        }
        is("37 null", x.item(0, 1, 9, 1), NULL);
        is("37 cast", x.item(1, 0, 9, 1), CAST);
        is("37 index", x.item(1, 1, 3, 1), INDEX);
        is("37 index below", x.item(1, 1, -1, 1), INDEX);
        is("37 index far", x.item(1, 1, Integer.MAX_VALUE, 1), INDEX);
        is("37 item", x.item(1, 1, 2, 5), 1);
        is("37 laid", x.lay(0, 1, 1, 2, 1) + x.told(0, 0), 6);
        int[] bits = {8, 16, 32};
        for (int lane = 0; lane < 3; lane++) {
            HoleCounty y = laid(lane, (1L << bits[lane]) + 4, (1L << bits[lane] - 1) + 4, (5L << 60) + 3);
            is("37 lowest bits of lane " + lane, y.lay(0, 0, lane, 0, 1) + y.told(0, 0), 5);
            is("37 the sign of lane " + lane, y.lay(0, 0, lane, 1, 1), NOT);
            is("37 far bits of lane " + lane, y.lay(0, 0, lane, 2, 1) + y.told(0, 0), 4);
            HoleCounty wide = laid(lane + 1, (1L << bits[lane]) + 4);
            is("37 the next lane holds them", wide.lay(0, 0, lane + 1, 0, 1), NOT);
        }
    }

    private static void copy() {
        HoleCounty x = laid(1, 1, 2, 3, 4, 5);
        x.sheet(1, 1, 3);
        x.sheet(2, 2, 5);
        for (int s : NO_SHEET) {
            is("38 bad", x.copy(s, 0, 0, 0, 1), BAD);
            is("38 bad to", x.copy(0, 0, s, 0, 1), BAD);
        }
        is("38 bad ahead of null", x.copy(3, 0, 4, 0, 1), BAD);
        is("38 null", x.copy(3, 0, 0, 0, 1), NULL);
        is("38 null to", x.copy(0, 0, 3, 0, -1), NULL);
        is("38 cast", x.copy(0, 0, 2, 0, -1), CAST);
        is("38 index i", x.copy(0, -1, 1, 0, 1), INDEX);
        is("38 index j", x.copy(0, 0, 1, -1, 1), INDEX);
        is("38 index n", x.copy(0, 0, 1, 0, -1), INDEX);
        is("38 index beyond i", x.copy(0, 4, 1, 0, 2), INDEX);
        is("38 index beyond j", x.copy(0, 0, 1, 0, 4), INDEX);
        is("38 index far", x.copy(0, Integer.MAX_VALUE, 1, 0, 1), INDEX);
        is("38 index far n", x.copy(0, 1, 1, 1, Integer.MAX_VALUE), INDEX);
        is("38 nothing", x.copy(0, 5, 1, 3, 0), 0);
        is("38 nothing beyond", x.copy(0, 6, 1, 0, 0), INDEX);
        is("38 copy", x.copy(0, 1, 1, 1, 2), 2);
        depths(x, 1, 0, 2, 3);
        is("38 upward in itself", x.copy(0, 0, 0, 1, 4), 4);
        depths(x, 0, 1, 1, 2, 3, 4);
        is("38 downward in itself", x.copy(0, 2, 0, 0, 3), 3);
        depths(x, 0, 2, 3, 4, 3, 4);
    }

    /** What a SHEET of shorts holds, shown as depths. */
    private static void depths(HoleCounty x, int sheet, int... due) {
        is("38 laid", x.lay(0, sheet, 1, 0, due.length), due.length);
        for (int c = 0; c < due.length; c++) {
            is("38 item " + c, x.told(c, 0), due[c]);
        }
    }
}
