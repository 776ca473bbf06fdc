import java.util.function.ToIntFunction;

/** Promises 9 to 12: at each place of a text every letter that can't stand there, the end too soon, too late, and blanks. */
public final class TextEdgeTest {
    private static final int FULL = -3, FAULT = -20, LAST = 126, MOST = 160;
    private static final String ZEROS = "000000/000000/000000/000000/000000/000000";
    private static final String ROOFS = "1^2^3^4^5^6^/7^8^9^1^2^3^/1^1^1^1^1^1^/2^2^2^2^2^2^/9^9^9^9^9^9^/1^2^3^4^5^6^";
    private static final String NOBODY = "------/------/------/------/------/------";
    private static final String BARE = "------------------------------------";
    private static final String DAY = "d00;f00;d55;r55";
    private static final Check CHECK = new Check();

    private interface Reader extends ToIntFunction<HoleCounty> {
    }

    private interface Due {
        int at(int place, char letter);
    }

    public static void main(String[] args) {
        tape();
        tooShort();
        tooLong();
        figures();
        roofs();
        slashes();
        signs();
        slashesOfOwners();
        days();
        blanks();
        longestDay();
        CHECK.end("TextEdgeTest");
    }

    private static int read(String text, Reader reader) {
        return reader.applyAsInt(Check.typed(new HoleCounty(), text));
    }

    private static void is(String text, Reader reader, int due) {
        CHECK.is("\"" + text + "\"", read(text, reader), due);
    }

    private static String with(String text, int place, char letter) {
        return text.substring(0, place) + letter + text.substring(place + 1);
    }

    private static String put(String text, int place, String more) {
        return text.substring(0, place) + more + text.substring(place);
    }

    /** Each letter (but a blank) in place of each that stands there. */
    private static void letters(String text, Reader reader, Due due) {
        for (int place = 0; place < text.length(); place++) {
            for (char letter = '!'; letter <= LAST; letter++) {
                is(with(text, place, letter), reader, due.at(place, letter));
            }
        }
    }

    // ---- 9 "BAD: not 32 .. 126; FULL: 160" is in RangeTest; here: what stands on the tape

    private static void tape() {
        for (int text = 0; text < 3; text++) {
            HoleCounty x = new HoleCounty();
            Check.typed(x, text == 0 ? ZEROS : text == 1 ? NOBODY : DAY);
            int typed = text == 2 ? DAY.length() : ZEROS.length();
            for (int n = typed + 1; n <= MOST; n++) {
                CHECK.is("9 how many it has", x.type(' '), n);
            }
            CHECK.is("9 FULL: 160", x.type('x'), FULL);
            CHECK.is("9 FULL again", x.type(' '), FULL);
            int answer = text == 0 ? x.ground() : text == 1 ? x.owners() : x.day();
            CHECK.is("9 the full tape is read without what was refused", answer, text == 2 ? 4 : 0);
            CHECK.is("9 which is empty then", x.type('x'), 1);
        }
        HoleCounty x = new HoleCounty();
        for (int n = 1; n < MOST; n++) {
            x.type(' ');
        }
        CHECK.is("9 the 160th", x.type('x'), MOST);
        CHECK.is("9 its place", x.ground(), FAULT - MOST + 1);
        for (int n = 0; n < MOST; n++) {
            x.type(' ');
        }
        CHECK.is("9 160 blanks: the end", x.day(), FAULT - MOST);
        CHECK.is("9 an empty tape: the end", x.day(), FAULT);
    }

    /** "the end: how many were typed" */
    private static void tooShort() {
        // without its last figure and roof
        String shorter = ROOFS.substring(0, ROOFS.length() - 2);
        for (String ground : new String[] {ZEROS.substring(0, 40), shorter}) {
            for (int n = 0; n <= ground.length(); n++) {
                is(ground.substring(0, n), x -> x.ground(), FAULT - n);
                is(ground.substring(0, n) + "  ", x -> x.ground(), FAULT - n - 2);
            }
        }
        for (String owners : new String[] {NOBODY, BARE}) {
            for (int n = 0; n < owners.length(); n++) {
                is(owners.substring(0, n), x -> x.owners(), FAULT - n);
                is(owners.substring(0, n) + " ", x -> x.owners(), FAULT - n - 1);
            }
        }
        for (int n = 0; n < DAY.length(); n++) {
            if (n % 4 != 3) {
                is(DAY.substring(0, n), x -> x.day(), FAULT - n);
                is(DAY.substring(0, n) + "   ", x -> x.day(), FAULT - n - 3);
            }
        }
    }

    private static void tooLong() {
        for (char letter = '!'; letter <= LAST; letter++) {
            is(ZEROS + letter, x -> x.ground(), FAULT - 41);
            is(ROOFS + letter, x -> x.ground(), FAULT - ROOFS.length());
            is(ROOFS + "  " + letter, x -> x.ground(), FAULT - ROOFS.length() - 2);
            is(NOBODY + letter, x -> x.owners(), FAULT - 41);
            is(BARE + letter, x -> x.owners(), FAULT - 36);
            is(BARE + " " + letter, x -> x.owners(), FAULT - 37);
            is(DAY + letter, x -> x.day(), letter == ';' ? FAULT - 16 : FAULT - 15);
            is(DAY + ";" + letter, x -> x.day(), "dfr".indexOf(letter) < 0 ? FAULT - 16 : FAULT - 17);
        }
    }

    // ---- 10 "6 ROWS with / between, each of 6 figures (DEPTH), behind a figure above 0 perhaps ^ (a ROOF)"

    private static void figures() {
        letters(ZEROS, x -> x.ground(), (place, letter) -> {
            boolean slash = place % 7 == 6;
            if (slash) {
                return letter == '/' ? 0 : FAULT - place;
            }
            return letter == '0' ? 0 : letter > '0' && letter <= '9' ? 1 : FAULT - place;
        });
        for (int c = 0; c < 36; c++) {
            int place = c / 6 * 7 + c % 6;
            for (int d = 0; d <= 9; d++) {
                HoleCounty x = Check.typed(new HoleCounty(), with(ZEROS, place, (char) ('0' + d)));
                CHECK.is("10 holes", x.ground(), d == 0 ? 0 : 1);
                CHECK.is("10 the depth of cell " + c, x.told(c, 0), d);
                CHECK.is("10 no other", x.count(6), d);
            }
        }
    }

    private static void roofs() {
        is(ROOFS, x -> x.ground(), 1);
        for (int place = 0; place <= ZEROS.length(); place++) {
            is(put(ZEROS, place, "^"), x -> x.ground(), FAULT - place);
        }
        for (int place = 0; place < ROOFS.length(); place++) {
            if (ROOFS.charAt(place) == '^') {
                is(put(ROOFS, place, "^"), x -> x.ground(), FAULT - place - 1);
                is(put(ROOFS, place, "   "), x -> x.ground(), 1);
                is(with(ROOFS, place - 1, '0'), x -> x.ground(), FAULT - place);
                HoleCounty x = Check.typed(new HoleCounty(), ROOFS.substring(0, place) + ROOFS.substring(place + 1));
                CHECK.is("10 perhaps ^", x.ground() * 100 + x.count(5), 135);
            }
        }
        HoleCounty x = Check.county(ROOFS);
        CHECK.is("10 all roofs", x.count(5), 36);
        Check.typed(x, ROOFS.replace("^", "")).ground();
        CHECK.is("10 in place of all ROOFS", x.count(5), 0);
        Check.typed(x, ZEROS).ground();
        CHECK.is("10 in place of all DEPTHS", x.count(6), 0);
    }

    private static void slashes() {
        for (int place = 0; place <= ZEROS.length(); place++) {
            // put ahead of a slash it is that slash, and the other one is too much
            int fault = place % 7 == 6 && place < 41 ? place + 1 : place;
            is(put(ZEROS, place, "/"), x -> x.ground(), FAULT - fault);
        }
        for (int row = 1; row < 6; row++) {
            int place = row * 7 - 1;
            is(ZEROS.substring(0, place) + ZEROS.substring(place + 1), x -> x.ground(), FAULT - place);
            is(ZEROS.substring(0, place - 1) + ZEROS.substring(place), x -> x.ground(), FAULT - place + 1);
        }
    }

    // ---- 11 "36 signs 0 .. 3 or - (nobody), / may stand behind each 6 of them but the last"

    private static void signs() {
        letters(NOBODY, x -> x.owners(), (place, letter) -> {
            if (place % 7 == 6) {
                // a sign in place of the slash makes the row go on: one too many at the end
                return letter == '/' ? 0 : isSign(letter) ? laterFault(place) : FAULT - place;
            }
            return letter == '-' ? 0 : isSign(letter) ? 1 : FAULT - place;
        });
        letters(BARE, x -> x.owners(), (place, letter) -> {
            if (letter == '/' && place > 0 && place % 6 == 0) {
                return FAULT - 36;
            }
            return letter == '-' ? 0 : isSign(letter) ? 1 : FAULT - place;
        });
        for (int c = 0; c < 36; c++) {
            for (int owner = 0; owner < 4; owner++) {
                HoleCounty x = Check.typed(new HoleCounty(), with(BARE, c, (char) ('0' + owner)));
                CHECK.is("11 how many CELLS have one", x.owners(), 1);
                CHECK.is("11 the owner of cell " + c, x.told(c, 2), owner);
            }
        }
        is(BARE.replace('-', '3'), x -> x.owners(), 36);
        HoleCounty x = Check.typed(new HoleCounty(), BARE.replace('-', '0'));
        x.owners();
        Check.typed(x, BARE).owners();
        CHECK.is("11 all are nobody's again", x.told(0, 2) + x.told(35, 2), 8);
    }

    private static boolean isSign(char letter) {
        return letter == '-' || letter >= '0' && letter <= '3';
    }

    /** With a sign in place of a slash the next slash stands behind 7, 13, .. signs; behind the last row it is a 37th sign. */
    private static int laterFault(int place) {
        return place + 7 < 41 ? FAULT - place - 7 : FAULT - 40;
    }

    private static void slashesOfOwners() {
        for (int places = 0; places < 32; places++) {
            StringBuilder text = new StringBuilder("------");
            for (int row = 0; row < 5; row++) {
                text.append((places >> row & 1) == 1 ? "/" : "").append("1-----");
            }
            is(text.toString(), x -> x.owners(), 5);
        }
        for (int place = 0; place <= 36; place++) {
            boolean may = place > 0 && place < 36 && place % 6 == 0;
            is(put(BARE, place, "/"), x -> x.owners(), may ? 0 : FAULT - place);
            is(put(BARE, place, "//"), x -> x.owners(), may ? FAULT - place - 1 : FAULT - place);
            is(put(BARE, place, " / "), x -> x.owners(), may ? 0 : FAULT - place - 1);
        }
    }

    // ---- 12 "REPAIRS with ; between: d, f, r, a figure (ROW) and a figure (COLUMN) 0 .. 5"

    private static void days() {
        for (int place = 0; place < DAY.length(); place++) {
            String may = place % 4 == 0 ? "dfr" : place % 4 == 3 ? ";" : "012345";
            for (char letter = '!'; letter <= LAST; letter++) {
                int answer = read(with(DAY, place, letter), x -> x.day());
                if (may.indexOf(letter) < 0) {
                    CHECK.is("12 " + letter + " at " + place, answer, FAULT - place);
                } else {
                    CHECK.holds("12 " + letter + " at " + place + " may stand there", answer >= 0);
                }
            }
        }
        for (int c = 0; c < 36; c++) {
            String place = "" + c / 6 + c % 6;
            HoleCounty x = Check.typed(new HoleCounty(), "d" + place + ";d" + place + ";r" + place);
            CHECK.is("12 three repairs", x.day(), 3);
            CHECK.is("12 of cell " + c, x.told(c, 0) * 10 + x.told(c, 1), 21);
            CHECK.is("12 of no other", x.count(6), 2);
            Check.typed(x, "r" + place + ";r" + place + ";r" + place + ";d" + place);
            CHECK.is("12 a ROOF taken off is no refusal", x.day(), 4);
            CHECK.is("12 of cell " + c + " then", x.told(c, 0) * 10 + x.told(c, 1), 30);
            Check.typed(x, "f" + place + ";f" + place + ";d" + place);
            CHECK.is("12 the first refused ends it", x.day() * 10 + x.count(6), 10);
            Check.typed(x, "d" + place);
            CHECK.is("12 a shorter day has nothing of the longer one", x.day() * 10 + x.count(6), 11);
        }
    }

    /** "blanks are passed over": at each place; the places of faults count them. */
    private static void blanks() {
        for (int place = 0; place <= ZEROS.length(); place++) {
            is(put(ZEROS, place, "  "), x -> x.ground(), 0);
            is(put(NOBODY, place, "  "), x -> x.owners(), 0);
            is(put(ZEROS, place, "  ?"), x -> x.ground(), FAULT - place - 2);
            is(put(NOBODY, place, "  ?"), x -> x.owners(), FAULT - place - 2);
            is("   " + put(ZEROS, place, "?"), x -> x.ground(), FAULT - place - 3);
        }
        for (int place = 0; place <= DAY.length(); place++) {
            is(put(DAY, place, "   "), x -> x.day(), 4);
            is(put(DAY, place, " ?"), x -> x.day(), FAULT - place - 1);
        }
        for (int n = 1; n < 5; n++) {
            String none = "     ".substring(0, n);
            is(none, x -> x.ground(), FAULT - n);
            is(none, x -> x.owners(), FAULT - n);
            is(none, x -> x.day(), FAULT - n);
        }
    }

    /** 40 REPAIRS are the most that THE TAPE holds. */
    private static void longestDay() {
        StringBuilder text = new StringBuilder();
        for (int n = 1; n <= 40; n++) {
            text.append(n > 1 ? ";" : "").append('d').append((n - 1) / 6 % 6).append((n - 1) % 6);
            is(text.toString(), x -> x.day(), n);
            is(text + ";", x -> x.day(), FAULT - 4 * n);
            HoleCounty x = Check.typed(new HoleCounty(), text.toString());
            x.day();
            CHECK.is("12 all are dug", x.count(6), n);
            CHECK.is("12 ten at most are known", x.count(3), Math.min(n, 10));
        }
        String deeper = "d22;d22;d22;d22;d22;d22;d22;d22;d22";
        is(deeper, x -> x.day(), 9);
        is(deeper + ";d22;d33", x -> x.day(), 9);
    }
}
