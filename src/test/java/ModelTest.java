import java.util.Random;

/** Runs of calls by lot, each answered by the program and by the Model; all answers must be alike. */
public final class ModelTest {
    private static final int RUNS = 800;
    private static final int CALLS = 512;
    /** A step makes at most so many calls: the longest text, with blanks, and reading it. */
    private static final int STEP = 180;
    private static final int[] ODD = {-1, -2, 36, 37, 10, 100, 160, Integer.MIN_VALUE, Integer.MAX_VALUE, Integer.MAX_VALUE - 1};

    private final Check check = new Check();
    private final Random lot;
    private final HoleCounty x = new HoleCounty();
    private final Model m = new Model();
    private final StringBuilder run = new StringBuilder();
    private int calls;

    private ModelTest(long seed) {
        lot = new Random(seed);
    }

    public static void main(String[] args) {
        Check all = new Check();
        for (int seed = 1; seed <= RUNS; seed++) {
            ModelTest test = new ModelTest(seed);
            test.go();
            all.is("run " + seed + ", wrong answers", test.check.wrong(), 0);
        }
        all.end("ModelTest");
    }

    private void go() {
        if (lot.nextInt(8) > 0) {
            newGround();
        }
        while (calls < CALLS - STEP && check.wrong() == 0) {
            any();
        }
    }

    private void same(String call, long got, long want) {
        calls++;
        run.append(call).append(' ');
        check.is(run.length() > 3000 ? run.substring(run.length() - 3000) : run.toString(), got, want);
    }

    /** Mostly a number from a range, at times one beyond it. */
    private int num(int from, int to) {
        int kind = lot.nextInt(40);
        if (kind == 0) {
            return ODD[lot.nextInt(ODD.length)];
        }
        if (kind == 1) {
            return lot.nextBoolean() ? from - 1 : to + 1;
        }
        return from + lot.nextInt(to - from + 1);
    }

    private int cell() {
        return num(0, 35);
    }

    private void any() {
        int kind = lot.nextInt(100);
        if (kind < 30) {
            change();
        } else if (kind < 70) {
            ask();
        } else if (kind < 92) {
            sheets();
        } else {
            text();
        }
    }

    private void change() {
        int a = cell(), b = num(0, 4);
        switch (lot.nextInt(14)) {
            case 0: case 1: case 2: same("dig(" + a + ")", x.dig(a), m.dig(a)); break;
            case 3: same("fill(" + a + ")", x.fill(a), m.fill(a)); break;
            case 4: case 5: case 6: same("roof(" + a + ")", x.roof(a), m.roof(a)); break;
            case 7: case 8: same("undo()", x.undo(), m.undo()); break;
            case 9: case 10: same("own(" + a + "," + b + ")", x.own(a, b), m.own(a, b)); break;
            case 11: int v = num(0, 99); same("rate(" + v + ")", x.rate(v), m.rate(v)); break;
            case 12: rarely(); break;
            default: roofHole(a); break;
        }
    }

    private void rarely() {
        int n = num(1, 99), s = num(0, Integer.MAX_VALUE - 1);
        switch (lot.nextInt(4)) {
            case 0: same("lots(" + n + ")", x.lots(n), m.lots(n)); break;
            case 1: same("seed(" + s + ")", x.seed(s), m.seed(s)); break;
            case 2: same("image()", x.image(), m.image()); break;
            default: same("restore()", x.restore(), m.restore()); break;
        }
    }

    /** Else an ABSENCE would hardly ever come by lot. */
    private void roofHole(int a) {
        long hole = m.cells(a, 0);
        for (int c = 0; c < 36 && hole > 0; c++) {
            if ((hole >> c & 1) == 1 && m.told(c, 1) == 0) {
                same("roof(" + c + ")", x.roof(c), m.roof(c));
            }
        }
    }

    private void ask() {
        int a = cell(), b = cell(), i = num(-1, 1), o = num(0, 3), w = num(0, 7), d = num(-1, 9), r = num(-1, 7);
        switch (lot.nextInt(17)) {
            case 0: w = num(0, 3); same("told(" + a + "," + w + ")", x.told(a, w), m.told(a, w)); break;
            case 1: w = num(0, 6); same("count(" + w + ")", x.count(w), m.count(w)); break;
            case 2: case 3: same("hole(" + a + "," + w + ")", x.hole(a, w), m.hole(a, w)); break;
            case 4: w = num(0, 2); same("cells(" + a + "," + w + ")", x.cells(a, w), m.cells(a, w)); break;
            case 5: same("part(" + a + "," + o + ")", x.part(a, o), m.part(a, o)); break;
            case 6: same("pays(" + o + ")", x.pays(o), m.pays(o)); break;
            case 7: same("worth(" + o + ")", x.worth(o), m.worth(o)); break;
            case 8: int t = tax(); same("filled(" + t + "," + i + ")", x.filled(t, i), m.filled(t, i)); break;
            case 9: same("split(" + a + "," + i + ")", x.split(a, i), m.split(a, i)); break;
            case 10: case 11: same("dug(" + a + "," + b + "," + d + ")", x.dug(a, b, d), m.dug(a, b, d)); break;
            case 12: same("loophole()", x.loophole(), m.loophole()); break;
            case 13: same("roofs(" + a + ")", x.roofs(a), m.roofs(a)); break;
            case 14: i = num(0, 1); same("border(" + i + ")", x.border(i), m.border(i)); break;
            case 15: same("cut(" + a + ")", x.cut(a), m.cut(a)); break;
            default: dear(a, r); break;
        }
    }

    private int tax() {
        int all = m.count(2);
        return lot.nextInt(6) == 0 ? num(0, 9999) : Math.max(-1, all + 5 - lot.nextInt(all / 2 + 10));
    }

    private void dear(int a, int r) {
        if (lot.nextInt(3) > 0) {
            books();
        } else if (m.count(0) < 8 || lot.nextInt(10) == 0) {
            same("round(" + a + "," + r + ")", x.round(a, r), m.round(a, r));
        }
    }

    private void books() {
        long set = 0;
        for (int k = lot.nextInt(60) == 0 ? 7 : lot.nextInt(7); k > 0; k--) {
            set |= 1L << lot.nextInt(lot.nextInt(40) == 0 ? 64 : 36);
        }
        int holes = lot.nextInt(3) == 0 ? -1 : num(Math.max(-1, m.count(0) - 2), Math.min(36, m.count(0) + 3));
        int tax = lot.nextInt(2) == 0 ? -1 : lot.nextInt(30) == 0 ? num(-1, 9999) : Math.max(-1, m.count(2) - 12 + lot.nextInt(25));
        int w = num(0, 3);
        String call = "books(" + set + "," + holes + "," + tax + "," + w + ")";
        same(call, x.books(set, holes, tax, w), m.books(set, holes, tax, w));
    }

    private void sheets() {
        int s = num(0, 3), l = lot.nextInt(8) == 0 ? num(0, 3) : s, n = num(0, 36), i = num(0, 35), c = cell();
        long v = value();
        switch (lot.nextInt(12)) {
            case 0: case 1: same("sheet(" + s + "," + l + "," + n + ")", x.sheet(s, l, n), m.sheet(s, l, n)); break;
            case 2: if (lot.nextInt(4) == 0) { same("drop(" + s + ")", x.drop(s), m.drop(s)); } break;
            case 3: case 4: case 5: item(s, l, i, v); break;
            case 6: case 7: lay(s, l, i, c); break;
            case 8: i = num(0, 8); same("film(" + s + "," + l + "," + i + ")", x.film(s, l, i), m.film(s, l, i)); break;
            case 9: case 10: census(s, l, c); break;
            default: copy(s, i, n); break;
        }
    }

    private long value() {
        switch (lot.nextInt(5)) {
            case 0: return lot.nextLong();
            case 1: return (1L << lot.nextInt(64)) + lot.nextInt(10);
            default: return num(0, 9);
        }
    }

    private void item(int s, int l, int i, long v) {
        same("item(" + s + "," + l + "," + i + "," + v + ")", x.item(s, l, i, v), m.item(s, l, i, v));
    }

    private void lay(int s, int l, int i, int c) {
        int n = num(1, 6), from = num(0, Math.max(0, i % 36));
        same("lay(" + c + "," + s + "," + l + "," + from + "," + n + ")", x.lay(c, s, l, from, n), m.lay(c, s, l, from, n));
    }

    /** A census that is right at first, so that the one wrong item is not always the first. */
    private void census(int s, int l, int c) {
        int n = num(1, 12), from = num(0, 3);
        for (int k = 0; k < 3 && lot.nextInt(3) > 0; k++) {
            long size = m.cells(c, 0);
            item(s, l, from + 2 * k, c);
            item(s, l, from + 2 * k + 1, size > 0 ? Long.bitCount(size) + (lot.nextInt(4) == 0 ? 1 : 0) : 0);
            c = cell();
        }
        n = lot.nextBoolean() ? n : num(1, 3);
        String call = "miscounted(" + s + "," + l + "," + from + "," + n + ")";
        same(call, x.miscounted(s, l, from, n), m.miscounted(s, l, from, n));
    }

    private void copy(int s, int i, int n) {
        int to = lot.nextBoolean() ? s : num(0, 3), j = num(0, 6);
        i = lot.nextBoolean() ? num(0, 6) : i;
        n = lot.nextBoolean() ? num(0, 8) : n;
        String call = "copy(" + s + "," + i + "," + to + "," + j + "," + n + ")";
        same(call, x.copy(s, i, to, j, n), m.copy(s, i, to, j, n));
    }

    private void newGround() {
        type(groundText());
        same("ground()", x.ground(), m.ground());
    }

    private void text() {
        int kind = lot.nextInt(30);
        if (kind == 0) {
            newGround();
            return;
        }
        if (kind < 12) {
            type(spoiled(dayText()));
            same("day()", x.day(), m.day());
        } else if (kind < 14) {
            type(spoiled(ownersText()));
            same("owners()", x.owners(), m.owners());
        } else if (kind < 16) {
            type(spoiled(groundText()));
            same("ground()", x.ground(), m.ground());
        } else if (kind == 16) {
            type(dayText());
            same("ground()", x.ground(), m.ground());
        } else if (kind == 17) {
            int letter = lot.nextInt(140) - 5;
            same("type(" + letter + ")", x.type(letter), m.type(letter));
        }
    }

    private void type(String text) {
        calls += text.length();
        run.append('"').append(text).append("\" ");
        for (char letter : text.toCharArray()) {
            check.is("type", x.type(letter), m.type(letter));
        }
    }

    private String groundText() {
        StringBuilder text = new StringBuilder();
        int dense = lot.nextInt(11), roofs = lot.nextInt(4);
        for (int c = 0; c < 36; c++) {
            text.append(c > 0 && c % 6 == 0 ? "/" : "");
            int depth = lot.nextInt(10) < dense ? lot.nextInt(3) == 0 ? 9 : 1 + lot.nextInt(9) : 0;
            text.append(depth).append(depth > 0 && lot.nextInt(4) < roofs ? "^" : "");
        }
        return text.toString();
    }

    private String ownersText() {
        StringBuilder text = new StringBuilder();
        int some = 1 + lot.nextInt(5), slashes = lot.nextInt(3);
        for (int c = 0; c < 36; c++) {
            text.append(c > 0 && c % 6 == 0 && lot.nextInt(2) < slashes ? "/" : "");
            text.append("-0123".charAt(lot.nextInt(some)));
        }
        return text.toString();
    }

    private String dayText() {
        StringBuilder text = new StringBuilder();
        int n = lot.nextInt(12) == 0 ? 38 + lot.nextInt(4) : lot.nextInt(6);
        for (int k = 0; k < n; k++) {
            text.append(k > 0 ? ";" : "").append("ddfr".charAt(lot.nextInt(4)));
            text.append(lot.nextInt(6)).append(lot.nextInt(6));
        }
        return text.append(lot.nextInt(8) == 0 ? ";" : "").toString();
    }

    private String spoiled(String text) {
        StringBuilder s = new StringBuilder(text);
        for (int k = lot.nextInt(3) == 0 ? lot.nextInt(9) : 0; k > 0; k--) {
            s.insert(lot.nextInt(s.length() + 1), ' ');
        }
        int at = lot.nextInt(s.length() + 1);
        switch (lot.nextInt(9)) {
            case 0: s.insert(at, "/^0129;d-x4567".charAt(lot.nextInt(14))); break;
            case 1: s.setLength(at); break;
            case 2: if (at < s.length()) { s.deleteCharAt(at); } break;
            case 3: if (at < s.length()) { s.setCharAt(at, (char) (32 + lot.nextInt(95))); } break;
            default: break;
        }
        return s.toString();
    }
}
