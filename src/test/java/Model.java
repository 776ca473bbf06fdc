import java.lang.reflect.Array;
import java.util.ArrayList;
import java.util.Arrays;
import java.util.List;
import java.util.TreeSet;
import java.util.regex.Matcher;
import java.util.regex.Pattern;
import java.util.stream.IntStream;

/**
 * The document once more, written as unlike the program as can be (sets, lists, all rows tried, real arrays as sheets),
 * so that a slip in one of the two shows in ModelTest.
 */
final class Model {
    private static final int BAD = -1, NOT = -2, FULL = -3, NONE = -4, NULL = -11, CAST = -12, INDEX = -13, SIZE = -14;
    private static final Pattern GROUND = Pattern.compile("(?:0|[1-9]\\^?){6}(?:/(?:0|[1-9]\\^?){6}){5}");
    private static final Pattern OWNERS = Pattern.compile("[0-3-]{6}(?:/?[0-3-]{6}){5}");
    private static final Pattern DAY = Pattern.compile("[dfr][0-5][0-5](?:;[dfr][0-5][0-5])*");
    private static final int[][] AROUND = neighbours();
    private static final Class<?>[] LANES = {byte.class, short.class, int.class, long.class};

    private static final class Past {
        int[] depth = new int[36];
        boolean[] roof = new boolean[36];
        int[] owner = new int[36];
        int rate = 2;
        long draw = 1;
        List<int[]> known = new ArrayList<>();

        Past copied() {
            Past p = new Past();
            p.depth = depth.clone();
            p.roof = roof.clone();
            p.owner = owner.clone();
            p.rate = rate;
            p.draw = draw;
            p.known = new ArrayList<>(known);
            return p;
        }
    }

    private Past now = new Past();
    private Past kept;
    private final StringBuilder tape = new StringBuilder();
    private final Object[] sheets = new Object[4];

    Model() {
        Arrays.fill(now.owner, 4);
    }

    // ---- what the words mean

    private static boolean in(long v, long from, long to) {
        return v >= from && v <= to;
    }

    private static int[][] neighbours() {
        int[][] all = new int[36][];
        for (int c = 0; c < 36; c++) {
            int at = c;
            all[c] = IntStream.range(0, 36).filter(d -> steps(at, d) == 1).toArray();
        }
        return all;
    }

    private static int[] around(int c) {
        return AROUND[c];
    }

    private static int steps(int a, int b) {
        return Math.abs(a / 6 - b / 6) + Math.abs(a % 6 - b % 6);
    }

    private static boolean edge(int c) {
        return c / 6 == 0 || c / 6 == 5 || c % 6 == 0 || c % 6 == 5;
    }

    private static TreeSet<Integer> holeOf(int[] depth, int c) {
        TreeSet<Integer> hole = new TreeSet<>();
        if (depth[c] == 0) {
            return hole;
        }
        List<Integer> todo = new ArrayList<>(List.of(c));
        hole.add(c);
        for (int k = 0; k < todo.size(); k++) {
            for (int d : around(todo.get(k))) {
                if (depth[d] > 0 && hole.add(d)) {
                    todo.add(d);
                }
            }
        }
        return hole;
    }

    private static List<TreeSet<Integer>> holesOf(int[] depth) {
        List<TreeSet<Integer>> holes = new ArrayList<>();
        boolean[] seen = new boolean[36];
        for (int c = 0; c < 36; c++) {
            if (depth[c] > 0 && !seen[c]) {
                TreeSet<Integer> hole = holeOf(depth, c);
                holes.add(hole);
                for (int d : hole) {
                    seen[d] = true;
                }
            }
        }
        return holes;
    }

    private static TreeSet<Integer> rimOf(TreeSet<Integer> hole) {
        TreeSet<Integer> rim = new TreeSet<>();
        for (int c : hole) {
            for (int d : around(c)) {
                rim.add(d);
            }
        }
        rim.removeAll(hole);
        return rim;
    }

    private static int fenceOf(TreeSet<Integer> hole) {
        int fence = 0;
        for (int c : hole) {
            fence += 4;
            for (int d : around(c)) {
                fence -= hole.contains(d) ? 1 : 0;
            }
        }
        return fence;
    }

    private static boolean within(TreeSet<Integer> hole, int c) {
        if (hole.contains(c)) {
            return false;
        }
        boolean[] seen = new boolean[36];
        List<Integer> todo = new ArrayList<>(List.of(c));
        seen[c] = true;
        for (int k = 0; k < todo.size(); k++) {
            if (edge(todo.get(k))) {
                return false;
            }
            for (int d : around(todo.get(k))) {
                if (!seen[d] && !hole.contains(d)) {
                    seen[d] = true;
                    todo.add(d);
                }
            }
        }
        return true;
    }

    private int kindOf(TreeSet<Integer> hole, int[] depth) {
        int kind = 0;
        boolean atEdge = false, nine = false, all = true;
        boolean[] rows = new boolean[6], columns = new boolean[6];
        for (int c : hole) {
            atEdge |= edge(c);
            nine |= depth[c] == 9;
            all &= now.roof[c];
            rows[c / 6] = true;
            columns[c % 6] = true;
        }
        kind = atEdge ? 1 : kind;
        kind = nine && !atEdge ? 2 : kind;
        kind = rows[0] && rows[5] || columns[0] && columns[5] ? 3 : kind;
        return all ? 4 : kind;
    }

    private int taxOf(TreeSet<Integer> hole, int[] depth) {
        int pit = 0;
        for (int k = 0; k < hole.size(); k++) {
            pit += k < 3 ? now.rate : 2 * now.rate;
        }
        int gap = pit / 2, shaft = pit + 10;
        int[] taxes = {pit, gap, shaft, gap + fenceOf(hole), Math.max(0, shaft - 3 * hole.size())};
        return taxes[kindOf(hole, depth)];
    }

    private int taxOfAll(int[] depth) {
        int tax = 0;
        for (TreeSet<Integer> hole : holesOf(depth)) {
            tax += taxOf(hole, depth);
        }
        return tax;
    }

    private static int largestOf(TreeSet<Integer> hole) {
        for (int n = 6; n > 0; n--) {
            for (int r = 0; r + n <= 6; r++) {
                for (int k = 0; k + n <= 6; k++) {
                    boolean all = true;
                    for (int s = 0; s < n * n; s++) {
                        all &= hole.contains((r + s / n) * 6 + k + s % n);
                    }
                    if (all) {
                        return n;
                    }
                }
            }
        }
        return 0;
    }

    private int[] with(int value, int... cells) {
        int[] depth = now.depth.clone();
        for (int c : cells) {
            depth[c] = value;
        }
        return depth;
    }

    private static long bits(Iterable<Integer> cells) {
        long set = 0;
        for (int c : cells) {
            set |= 1L << c;
        }
        return set;
    }

    private int rimCells(TreeSet<Integer> hole, int owner) {
        int n = 0;
        for (int c : rimOf(hole)) {
            n += now.owner[c] == owner ? 1 : 0;
        }
        return n;
    }

    // ---- 1

    private void known(int cell) {
        now.known.add(new int[] {cell, now.depth[cell], now.roof[cell] ? 1 : 0});
        if (now.known.size() > 10) {
            now.known.remove(0);
        }
    }

    int dig(int cell) {
        if (!in(cell, 0, 35)) {
            return BAD;
        }
        if (now.depth[cell] == 9) {
            return FULL;
        }
        known(cell);
        return ++now.depth[cell];
    }

    int fill(int cell) {
        if (!in(cell, 0, 35)) {
            return BAD;
        }
        int was = now.depth[cell];
        if (was == 0) {
            return NOT;
        }
        known(cell);
        now.depth[cell] = 0;
        now.roof[cell] = false;
        return was;
    }

    int roof(int cell) {
        if (!in(cell, 0, 35)) {
            return BAD;
        }
        if (now.depth[cell] == 0) {
            return NOT;
        }
        known(cell);
        now.roof[cell] = !now.roof[cell];
        return now.roof[cell] ? 1 : 0;
    }

    int undo() {
        if (now.known.isEmpty()) {
            return NONE;
        }
        int[] was = now.known.remove(now.known.size() - 1);
        now.depth[was[0]] = was[1];
        now.roof[was[0]] = was[2] == 1;
        return now.known.size();
    }

    int own(int cell, int owner) {
        if (!in(cell, 0, 35) || !in(owner, 0, 4)) {
            return BAD;
        }
        int was = now.owner[cell];
        now.owner[cell] = owner;
        return was;
    }

    int rate(int v) {
        if (!in(v, 0, 99)) {
            return BAD;
        }
        int was = now.rate;
        now.rate = v;
        return was;
    }

    int told(int cell, int what) {
        if (!in(cell, 0, 35) || !in(what, 0, 3)) {
            return BAD;
        }
        TreeSet<Integer> hole = holeOf(now.depth, cell);
        return new int[] {now.depth[cell], now.roof[cell] ? 1 : 0, now.owner[cell], hole.isEmpty() ? NONE : hole.first()}[what];
    }

    int type(int letter) {
        if (!in(letter, 32, 126)) {
            return BAD;
        }
        if (tape.length() == 160) {
            return FULL;
        }
        return tape.append((char) letter).length();
    }

    /** The text without blanks, or a FAULT as a number's text. */
    private String taken(Pattern form) {
        String all = tape.toString();
        tape.setLength(0);
        StringBuilder text = new StringBuilder();
        for (int i = 0; i < all.length(); i++) {
            if (all.charAt(i) == ' ') {
                continue;
            }
            text.append(all.charAt(i));
            Matcher m = form.matcher(text);
            if (!m.matches() && !m.hitEnd()) {
                return "fault" + (-20 - i);
            }
        }
        return form.matcher(text).matches() ? text.toString() : "fault" + (-20 - all.length());
    }

    private static int fault(String text) {
        return text.startsWith("fault") ? Integer.parseInt(text.substring(5)) : 0;
    }

    int ground() {
        String text = taken(GROUND);
        if (fault(text) != 0) {
            return fault(text);
        }
        int c = -1;
        now.roof = new boolean[36];
        for (char letter : text.replace("/", "").toCharArray()) {
            if (letter == '^') {
                now.roof[c] = true;
            } else {
                now.depth[++c] = letter - '0';
            }
        }
        now.known.clear();
        return holesOf(now.depth).size();
    }

    int owners() {
        String text = taken(OWNERS);
        if (fault(text) != 0) {
            return fault(text);
        }
        String signs = text.replace("/", "");
        int have = 0;
        for (int c = 0; c < 36; c++) {
            now.owner[c] = "0123-".indexOf(signs.charAt(c));
            have += now.owner[c] < 4 ? 1 : 0;
        }
        return have;
    }

    int day() {
        String text = taken(DAY);
        if (fault(text) != 0) {
            return fault(text);
        }
        int done = 0;
        for (String repair : text.split(";")) {
            int cell = (repair.charAt(1) - '0') * 6 + repair.charAt(2) - '0';
            int answer = repair.charAt(0) == 'd' ? dig(cell) : repair.charAt(0) == 'f' ? fill(cell) : roof(cell);
            if (answer < 0) {
                return done;
            }
            done++;
        }
        return done;
    }

    int count(int what) {
        int open = 0, roofs = 0, all = 0;
        for (int c = 0; c < 36; c++) {
            open += now.depth[c] > 0 ? 1 : 0;
            roofs += now.roof[c] ? 1 : 0;
            all += now.depth[c];
        }
        if (!in(what, 0, 6)) {
            return BAD;
        }
        return new int[] {holesOf(now.depth).size(), open, taxOfAll(now.depth), now.known.size(), now.rate, roofs, all}[what];
    }

    // ---- 2

    int hole(int cell, int what) {
        if (!in(cell, 0, 35) || !in(what, 0, 7)) {
            return BAD;
        }
        TreeSet<Integer> hole = holeOf(now.depth, cell);
        if (hole.isEmpty()) {
            return NOT;
        }
        int owner = 4;
        for (int o = 3; o >= 0; o--) {
            int his = rimCells(hole, o);
            owner = his > 0 && (owner == 4 || his >= rimCells(hole, owner)) ? o : owner;
        }
        int nested = 0;
        for (TreeSet<Integer> other : holesOf(now.depth)) {
            boolean all = true;
            for (int c : hole) {
                all &= within(other, c);
            }
            nested += all ? 1 : 0;
        }
        return new int[] {hole.size(), kindOf(hole, now.depth), taxOf(hole, now.depth), fenceOf(hole), rimOf(hole).size(),
            owner, nested, largestOf(hole)}[what];
    }

    long cells(int cell, int what) {
        if (!in(cell, 0, 35) || !in(what, 0, 2)) {
            return BAD;
        }
        TreeSet<Integer> hole = holeOf(now.depth, cell);
        if (hole.isEmpty()) {
            return NOT;
        }
        TreeSet<Integer> inside = new TreeSet<>();
        for (int c = 0; c < 36; c++) {
            if (within(hole, c)) {
                inside.add(c);
            }
        }
        return bits(what == 0 ? hole : what == 1 ? rimOf(hole) : inside);
    }

    private int partOf(TreeSet<Integer> hole, int owner) {
        int all = rimOf(hole).size() - rimCells(hole, 4);
        return all == 0 ? 0 : taxOf(hole, now.depth) * rimCells(hole, owner) / all;
    }

    int part(int cell, int owner) {
        if (!in(cell, 0, 35) || !in(owner, 0, 3)) {
            return BAD;
        }
        TreeSet<Integer> hole = holeOf(now.depth, cell);
        return hole.isEmpty() ? NOT : partOf(hole, owner);
    }

    int pays(int owner) {
        if (!in(owner, 0, 3)) {
            return BAD;
        }
        int pays = 0;
        for (TreeSet<Integer> hole : holesOf(now.depth)) {
            pays += partOf(hole, owner);
        }
        return pays;
    }

    int worth(int owner) {
        if (!in(owner, 0, 3)) {
            return -100001;
        }
        int[] depth = now.depth.clone();
        for (int c = 0; c < 36; c++) {
            depth[c] = now.owner[c] == owner ? 0 : depth[c];
        }
        return taxOfAll(now.depth) - taxOfAll(depth);
    }

    private static int pick(int[] row, int i) {
        return row == null ? NONE : i < 0 ? row.length : i < row.length ? row[i] : NONE;
    }

    int filled(int tax, int i) {
        if (!in(tax, 0, 9999) || !in(i, -1, 1)) {
            return BAD;
        }
        int[] best = taxOfAll(now.depth) <= tax ? new int[0] : null;
        for (int a = 0; a < 36; a++) {
            for (int b = a; b < 36; b++) {
                int[] row = a == b ? new int[] {a} : new int[] {a, b};
                if (now.depth[a] == 0 || now.depth[b] == 0 || best != null && best.length <= row.length) {
                    continue;
                }
                best = taxOfAll(with(0, row)) <= tax ? row : best;
            }
        }
        return pick(best, i);
    }

    int split(int cell, int i) {
        if (!in(cell, 0, 35) || !in(i, -1, 1)) {
            return BAD;
        }
        TreeSet<Integer> hole = holeOf(now.depth, cell);
        if (hole.isEmpty()) {
            return NOT;
        }
        int[] best = null;
        for (int a : hole) {
            for (int b : hole.tailSet(a)) {
                int[] row = a == b ? new int[] {a} : new int[] {a, b};
                if (best != null && best.length <= row.length) {
                    continue;
                }
                int pieces = 0;
                for (TreeSet<Integer> piece : holesOf(with(0, row))) {
                    pieces += hole.containsAll(piece) ? 1 : 0;
                }
                best = pieces >= 2 ? row : best;
            }
        }
        return pick(best, i);
    }

    int dug(int a, int b, int i) {
        if (!in(a, 0, 35) || !in(b, 0, 35) || !in(i, -1, 9)) {
            return BAD;
        }
        TreeSet<Integer> one = holeOf(now.depth, a), other = holeOf(now.depth, b);
        if (one.isEmpty() || other.isEmpty() || one.equals(other)) {
            return NOT;
        }
        int[] far = farness(other);
        List<int[]> rows = new ArrayList<>();
        gather(one, new TreeSet<>(), far, rows);
        rows.sort(Arrays::compare);
        return pick(rows.get(0), i);
    }

    /** How many CELLS of DEPTH 0 a way to a HOLE needs at least, with the CELL where it begins. */
    private int[] farness(TreeSet<Integer> other) {
        int[] far = new int[36];
        Arrays.fill(far, 999);
        for (int c : other) {
            far[c] = 0;
        }
        for (int turn = 0; turn < 40; turn++) {
            for (int c = 0; c < 36; c++) {
                for (int d : around(c)) {
                    far[c] = Math.min(far[c], far[d] + (now.depth[c] == 0 ? 1 : 0));
                }
            }
        }
        return far;
    }

    /** All sets of the fewest CELLS: from what hangs together with the first HOLE each CELL that leads nearer. */
    private void gather(TreeSet<Integer> reached, TreeSet<Integer> chosen, int[] far, List<int[]> rows) {
        int least = 999;
        for (int c : reached) {
            if (far[c] == 0) {
                rows.add(chosen.stream().mapToInt(x -> x).toArray());
                return;
            }
        }
        for (int c : rimOf(reached)) {
            least = Math.min(least, far[c]);
        }
        for (int c : rimOf(reached)) {
            if (far[c] == least) {
                TreeSet<Integer> more = new TreeSet<>(chosen);
                more.add(c);
                TreeSet<Integer> set = new TreeSet<>();
                set.add(c);
                for (int d : around(c)) {
                    set.addAll(holeOf(now.depth, d));
                }
                gather(set, more, far, rows);
            }
        }
    }

    int loophole() {
        int best = NONE, least = taxOfAll(now.depth);
        for (int c = 35; c >= 0; c--) {
            int tax = taxOfAll(with(1, c));
            if (now.depth[c] == 0 && (tax < least || best != NONE && tax == least)) {
                best = c;
                least = tax;
            }
        }
        return best;
    }

    int roofs(int cell) {
        if (!in(cell, 0, 35)) {
            return BAD;
        }
        TreeSet<Integer> hole = holeOf(now.depth, cell);
        int without = 0;
        for (int c : hole) {
            without += now.roof[c] ? 0 : 1;
        }
        return hole.isEmpty() ? NOT : without;
    }

    private int fewest;
    private int[] walked;

    int round(int cell, int i) {
        if (!in(cell, 0, 35) || !in(i, -1, 7)) {
            return BAD;
        }
        List<TreeSet<Integer>> holes = holesOf(now.depth);
        if (holes.size() > 8) {
            return FULL;
        }
        fewest = 9999;
        walk(cell, holes, new ArrayList<>(), 0);
        return i < 0 ? fewest : pick(walked, i);
    }

    private void walk(int cell, List<TreeSet<Integer>> holes, List<Integer> row, int sum) {
        if (holes.isEmpty()) {
            int[] now = row.stream().mapToInt(x -> x).toArray();
            if (sum < fewest || sum == fewest && Arrays.compare(now, walked) < 0) {
                fewest = sum;
                walked = now;
            }
            return;
        }
        for (int h = holes.size() - 1; h >= 0; h--) {
            TreeSet<Integer> hole = holes.get(h);
            int next = hole.first();
            for (int c : hole) {
                next = steps(cell, c) < steps(cell, next) ? c : next;
            }
            List<TreeSet<Integer>> others = new ArrayList<>(holes);
            others.remove(h);
            row.add(hole.first());
            walk(next, others, row, sum + steps(cell, next));
            row.remove(row.size() - 1);
        }
    }

    int border(int what) {
        if (!in(what, 0, 1)) {
            return BAD;
        }
        TreeSet<Integer> best = new TreeSet<>();
        for (TreeSet<Integer> hole : holesOf(now.depth)) {
            best = hole.size() > best.size() ? hole : best;
        }
        return best.isEmpty() ? NONE : what == 0 ? best.first() : fenceOf(best);
    }

    int cut(int cell) {
        if (!in(cell, 0, 35)) {
            return BAD;
        }
        TreeSet<Integer> hole = holeOf(now.depth, cell);
        if (hole.isEmpty()) {
            return NOT;
        }
        for (int c : rimOf(hole)) {
            if (largestOf(holeOf(with(1, c), c)) > largestOf(hole)) {
                return c;
            }
        }
        return NONE;
    }

    // ---- 3

    long books(long set, int holes, int tax, int what) {
        List<Integer> unknown = new ArrayList<>();
        for (int c = 0; c < 64; c++) {
            if ((set >>> c & 1) == 1) {
                unknown.add(c);
            }
        }
        if (!in(set, 0, (1L << 36) - 1) || unknown.size() > 6 || !in(holes, -1, 36) || !in(tax, -1, 9999) || !in(what, 0, 3)) {
            return BAD;
        }
        TreeSet<Long> ways = new TreeSet<>();
        long sure = set, free = set;
        for (int w = 0; w < 1 << unknown.size(); w++) {
            int[] depth = now.depth.clone();
            long way = 0;
            for (int k = 0; k < unknown.size(); k++) {
                depth[unknown.get(k)] = w >> k & 1;
                way |= (long) (w >> k & 1) << unknown.get(k);
            }
            if ((holes < 0 || holesOf(depth).size() == holes) && (tax < 0 || taxOfAll(depth) == tax)) {
                ways.add(way);
                sure &= way;
                free &= ~way;
            }
        }
        if (what == 0) {
            return ways.size();
        }
        return ways.isEmpty() ? NONE : what == 1 ? ways.first() : what == 2 ? sure : free;
    }

    private long drawn() {
        now.draw = (now.draw * 1103515245L + 12345L) % (1L << 31);
        return now.draw / 65536;
    }

    int lots(int n) {
        if (!in(n, 1, 99)) {
            return BAD;
        }
        int answer = 0;
        for (int year = 0; year < n; year++) {
            int cell = (int) (drawn() % 36);
            if (drawn() % 4 == 0) {
                answer += fill(cell) > 0 ? 100 : 0;
            } else {
                answer += dig(cell) > 0 ? 1 : 0;
            }
        }
        now.known.clear();
        return answer;
    }

    int seed(int v) {
        if (v < 0) {
            return BAD;
        }
        int was = (int) now.draw;
        now.draw = v;
        return was;
    }

    int image() {
        kept = now.copied();
        return 1;
    }

    int restore() {
        if (kept == null) {
            return NONE;
        }
        now = kept.copied();
        return 1;
    }

    // ---- 4

    /** What the machine itself finds: the SHEET is asked for each of its items. */
    private int machine(int sheet, int lane, int from, int n) {
        if (!in(sheet, 0, 3) || !in(lane, 0, 3)) {
            return BAD;
        }
        if (sheets[sheet] == null) {
            return NULL;
        }
        if (sheets[sheet].getClass().getComponentType() != LANES[lane]) {
            return CAST;
        }
        return in(from, 0, Array.getLength(sheets[sheet])) && in((long) from + n, from, Array.getLength(sheets[sheet])) ? 0 : INDEX;
    }

    private void set(int sheet, int i, long v) {
        Object row = sheets[sheet];
        if (row instanceof byte[] bytes) {
            bytes[i] = (byte) v;
        } else if (row instanceof short[] shorts) {
            shorts[i] = (short) v;
        } else if (row instanceof int[] ints) {
            ints[i] = (int) v;
        } else {
            ((long[]) row)[i] = v;
        }
    }

    int lay(int cell, int sheet, int lane, int from, int n) {
        if (!in(cell, 0, 35) || !in(n, 1, 36) || cell + n - 1 > 35) {
            return BAD;
        }
        int refused = machine(sheet, lane, from, n);
        if (refused != 0) {
            return refused;
        }
        for (int k = 0; k < n; k++) {
            if (!in(Array.getLong(sheets[sheet], from + k), 0, 9)) {
                return NOT;
            }
        }
        for (int k = 0; k < n; k++) {
            now.depth[cell + k] = (int) Array.getLong(sheets[sheet], from + k);
            now.roof[cell + k] &= now.depth[cell + k] > 0;
        }
        now.known.clear();
        return n;
    }

    int film(int sheet, int lane, int from) {
        List<TreeSet<Integer>> holes = holesOf(now.depth);
        int refused = machine(sheet, lane, from, holes.size());
        if (refused != 0) {
            return refused;
        }
        for (int k = 0; k < holes.size(); k++) {
            set(sheet, from + k, taxOf(holes.get(k), now.depth));
        }
        return holes.size();
    }

    int miscounted(int sheet, int lane, int from, int n) {
        if (!in(n, 1, 12)) {
            return BAD;
        }
        int refused = machine(sheet, lane, from, 2 * n);
        if (refused != 0) {
            return refused;
        }
        for (int k = 0; k < n; k++) {
            long cell = Array.getLong(sheets[sheet], from + 2 * k);
            long size = Array.getLong(sheets[sheet], from + 2 * k + 1);
            if (!in(cell, 0, 35) || now.depth[(int) cell] == 0 || holeOf(now.depth, (int) cell).size() != size) {
                return k;
            }
        }
        return NONE;
    }

    int sheet(int sheet, int lane, int n) {
        if (!in(sheet, 0, 3) || !in(lane, 0, 3) || n > 36) {
            return BAD;
        }
        if (n < 0) {
            return SIZE;
        }
        sheets[sheet] = Array.newInstance(LANES[lane], n);
        return n;
    }

    int drop(int sheet) {
        if (!in(sheet, 0, 3)) {
            return BAD;
        }
        if (sheets[sheet] == null) {
            return NULL;
        }
        int had = Array.getLength(sheets[sheet]);
        sheets[sheet] = null;
        return had;
    }

    int item(int sheet, int lane, int i, long v) {
        int refused = machine(sheet, lane, i, 1);
        if (refused == 0) {
            set(sheet, i, v);
            return 1;
        }
        return refused;
    }

    int copy(int from, int i, int to, int j, int n) {
        if (!in(from, 0, 3) || !in(to, 0, 3)) {
            return BAD;
        }
        try {
            System.arraycopy(sheets[from], i, sheets[to], j, n);
            return n;
        } catch (NullPointerException none) {
            return NULL;
        } catch (ArrayStoreException unlike) {
            return CAST;
        } catch (IndexOutOfBoundsException beyond) {
            return INDEX;
        }
    }
}
