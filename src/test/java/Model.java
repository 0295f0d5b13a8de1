import java.util.ArrayDeque;
import java.util.ArrayList;
import java.util.Deque;
import java.util.HashMap;
import java.util.List;
import java.util.Map;

/**
 * The document once more, written as plainly as can be and in another way than the class: cells in
 * two-dimensional arrays, fitting pictures by counting the ways row by row. Tests compare both.
 */
final class Model {
    static final int NONE = -9;

    static final class State {
        boolean[][] filled = new boolean[3][3];
        boolean[][] pinned = new boolean[3][3];
        int[] wanted = new int[6];

        State twin() {
            State t = new State();
            t.filled = twin(filled);
            t.pinned = twin(pinned);
            t.wanted = wanted.clone();
            return t;
        }

        private static boolean[][] twin(boolean[][] a) {
            boolean[][] b = new boolean[a.length][];
            for (int i = 0; i < a.length; i++) {
                b[i] = a[i].clone();
            }
            return b;
        }

        int rows() {
            return filled.length;
        }

        int columns() {
            return filled[0].length;
        }

        int lines() {
            return rows() + columns();
        }

        List<int[]> cellsOf(int l) {
            List<int[]> cells = new ArrayList<>();
            if (l < rows()) {
                for (int c = 0; c < columns(); c++) {
                    cells.add(new int[] {l, c});
                }
            } else {
                for (int r = 0; r < rows(); r++) {
                    cells.add(new int[] {r, l - rows()});
                }
            }
            return cells;
        }

        int count(int l) {
            int n = 0;
            for (int[] p : cellsOf(l)) {
                n += filled[p[0]][p[1]] ? 1 : 0;
            }
            return n;
        }

        int count() {
            int n = 0;
            for (int r = 0; r < rows(); r++) {
                n += count(r);
            }
            return n;
        }

        boolean isFilled(int r, int c) {
            return r >= 0 && r < rows() && c >= 0 && c < columns() && filled[r][c];
        }

        int outline(int[][] pieces, int piece) {
            int n = 0;
            for (int r = 0; r < rows(); r++) {
                for (int c = 0; c < columns(); c++) {
                    if (filled[r][c] && (piece < 0 || pieces[r][c] == piece)) {
                        n += isFilled(r - 1, c) ? 0 : 1;
                        n += isFilled(r + 1, c) ? 0 : 1;
                        n += isFilled(r, c - 1) ? 0 : 1;
                        n += isFilled(r, c + 1) ? 0 : 1;
                    }
                }
            }
            return n;
        }

        int outline() {
            return outline(null, -1);
        }

        int[][] pieces() {
            int[][] pieces = new int[rows()][columns()];
            for (int[] row : pieces) {
                java.util.Arrays.fill(row, NONE);
            }
            int next = 0;
            for (int r = 0; r < rows(); r++) {
                for (int c = 0; c < columns(); c++) {
                    if (filled[r][c] && pieces[r][c] == NONE) {
                        flood(pieces, r, c, next++);
                    }
                }
            }
            return pieces;
        }

        private void flood(int[][] pieces, int r, int c, int number) {
            if (isFilled(r, c) && pieces[r][c] == NONE) {
                pieces[r][c] = number;
                flood(pieces, r - 1, c, number);
                flood(pieces, r + 1, c, number);
                flood(pieces, r, c - 1, number);
                flood(pieces, r, c + 1, number);
            }
        }

        int countPieces() {
            int most = -1;
            for (int[] row : pieces()) {
                for (int p : row) {
                    most = Math.max(most, p);
                }
            }
            return most + 1;
        }

        boolean[][] hull() {
            boolean[][] in = twin(filled);
            boolean grew = true;
            while (grew) {
                grew = false;
                for (int l = 0; l < lines(); l++) {
                    List<int[]> cells = cellsOf(l);
                    int first = -1;
                    int last = -1;
                    for (int i = 0; i < cells.size(); i++) {
                        if (in[cells.get(i)[0]][cells.get(i)[1]]) {
                            first = first < 0 ? i : first;
                            last = i;
                        }
                    }
                    for (int i = first + 1; i < last; i++) {
                        if (!in[cells.get(i)[0]][cells.get(i)[1]]) {
                            in[cells.get(i)[0]][cells.get(i)[1]] = true;
                            grew = true;
                        }
                    }
                }
            }
            return in;
        }

        boolean possible(int r, int s, int c, int d) {
            return !pinned[r][c] && !pinned[r][d] && !pinned[s][c] && !pinned[s][d]
                    && filled[r][c] == filled[s][d] && filled[r][d] == filled[s][c]
                    && filled[r][c] != filled[r][d];
        }

        List<int[]> exchanges() {
            List<int[]> all = new ArrayList<>();
            for (int r = 0; r < rows(); r++) {
                for (int s = r + 1; s < rows(); s++) {
                    for (int c = 0; c < columns(); c++) {
                        for (int d = c + 1; d < columns(); d++) {
                            if (possible(r, s, c, d)) {
                                all.add(new int[] {r, s, c, d});
                            }
                        }
                    }
                }
            }
            return all;
        }

        void doExchange(int[] e) {
            for (int r : new int[] {e[0], e[1]}) {
                for (int c : new int[] {e[2], e[3]}) {
                    filled[r][c] = !filled[r][c];
                }
            }
        }

        int wrongLines() {
            int n = 0;
            for (int l = 0; l < lines(); l++) {
                n += count(l) == wanted[l] ? 0 : 1;
            }
            return n;
        }
    }

    /** Counts and finds fitting pictures of a state by the ways in which the last rows can be. */
    static final class Ways {
        private final State s;
        private final List<Map<Integer, Long>> known = new ArrayList<>();

        Ways(State s) {
            this.s = s;
            for (int r = 0; r <= s.rows(); r++) {
                known.add(new HashMap<>());
            }
        }

        int[] left() {
            int[] left = new int[s.columns()];
            for (int c = 0; c < left.length; c++) {
                left[c] = s.wanted[s.rows() + c];
            }
            return left;
        }

        /** In how many ways the rows from r on can be filled: the columns get what is left. */
        long count(int r, int[] left) {
            int key = 0;
            for (int n : left) {
                key = 7 * key + n;
            }
            Long was = known.get(r).get(key);
            if (was != null) {
                return was;
            }
            long n = 0;
            if (r == s.rows()) {
                n = key == 0 ? 1 : 0;
            } else {
                for (int row = 0; row < 1 << s.columns(); row++) {
                    int[] then = behind(r, row, left);
                    n += then == null ? 0 : count(r + 1, then);
                }
            }
            known.get(r).put(key, n);
            return n;
        }

        /** A row is a number whose highest digit is the column 0: smaller rows come first. */
        boolean has(int row, int c) {
            return (row >> s.columns() - 1 - c & 1) == 1;
        }

        int[] behind(int r, int row, int[] left) {
            if (Integer.bitCount(row) != s.wanted[r]) {
                return null;
            }
            int[] then = left.clone();
            for (int c = 0; c < s.columns(); c++) {
                if (s.pinned[r][c] && s.filled[r][c] != has(row, c)) {
                    return null;
                }
                if (has(row, c) && --then[c] < 0) {
                    return null;
                }
            }
            return then;
        }

        long count() {
            return count(0, left());
        }

        /** At most many fitting pictures behind the rows, or from the first one on for null. */
        List<int[]> list(int[] rows, boolean backwards, int many) {
            List<int[]> all = new ArrayList<>();
            list(0, left(), new int[s.rows()], rows, backwards, many, all);
            return all;
        }

        private void list(int r, int[] left, int[] chosen, int[] rows, boolean backwards, int many,
                List<int[]> all) {
            if (all.size() >= many || count(r, left) == 0) {
                return;
            }
            if (r == s.rows()) {
                if (rows == null) {
                    all.add(chosen.clone());
                }
                return;
            }
            for (int i = 0; i < 1 << s.columns(); i++) {
                int row = backwards ? (1 << s.columns()) - 1 - i : i;
                int[] then = rows != null && row < rows[r] ? null : behind(r, row, left);
                if (then != null) {
                    chosen[r] = row;
                    list(r + 1, then, chosen, rows != null && row == rows[r] ? rows : null,
                            backwards, many, all);
                }
            }
        }

        int[] present() {
            int[] rows = new int[s.rows()];
            for (int r = 0; r < rows.length; r++) {
                for (int c = 0; c < s.columns(); c++) {
                    rows[r] = 2 * rows[r] + (s.filled[r][c] ? 1 : 0);
                }
            }
            return rows;
        }
    }

    private final StringBuilder text = new StringBuilder();
    private State now = new State();
    private final Deque<State> remembered = new ArrayDeque<>();
    private final State[] slots = new State[2];

    int append(int c) {
        if (c < 0 || c > 255) {
            throw new IllegalArgumentException();
        }
        if (text.length() == 60) {
            throw new IllegalStateException();
        }
        text.append((char) c);
        return text.length();
    }

    int clearText() {
        int was = text.length();
        text.setLength(0);
        return was;
    }

    /** The allowed signs at each place, as far as the signs before tell the places. */
    private List<String> places() {
        List<String> places = new ArrayList<>(List.of("P", "123456", "123456"));
        if (text.length() < 3 || !"123456".contains(text.substring(1, 2))
                || !"123456".contains(text.substring(2, 3))) {
            return places;
        }
        int rows = text.charAt(1) - '0';
        int columns = text.charAt(2) - '0';
        for (int i = 0; i < rows * columns; i++) {
            places.add(".#,%");
        }
        places.add(":");
        for (int i = 0; i < rows + columns; i++) {
            places.add("0123456");
        }
        return places;
    }

    int errorPosition() {
        List<String> places = places();
        for (int i = 0; i < text.length(); i++) {
            if (i >= places.size() || places.get(i).indexOf(text.charAt(i)) < 0) {
                return i;
            }
        }
        boolean ends = text.length() == places.size() && places.size() > 3
                || text.length() > 3 && places.get(text.length()).equals(":");
        return ends ? NONE : text.length();
    }

    int load() {
        if (errorPosition() != NONE) {
            throw new IllegalStateException();
        }
        int rows = text.charAt(1) - '0';
        int columns = text.charAt(2) - '0';
        now = new State();
        now.filled = new boolean[rows][columns];
        now.pinned = new boolean[rows][columns];
        now.wanted = new int[rows + columns];
        for (int i = 0; i < rows * columns; i++) {
            char sign = text.charAt(3 + i);
            now.filled[i / columns][i % columns] = "#%".indexOf(sign) >= 0;
            now.pinned[i / columns][i % columns] = ",%".indexOf(sign) >= 0;
        }
        int colon = text.indexOf(":");
        for (int l = 0; l < rows + columns; l++) {
            now.wanted[l] = colon < 0 ? now.count(l) : text.charAt(colon + 1 + l) - '0';
        }
        remembered.clear();
        slots[0] = null;
        slots[1] = null;
        return now.count();
    }

    int about(int what) {
        switch (what) {
            case 0: return now.rows();
            case 1: return now.columns();
            case 2: return now.count();
            case 3: return count(now.pinned);
            case 4: return wantedFrom(0, now.rows());
            case 5: return wantedFrom(now.rows(), now.lines());
            case 6: return now.wrongLines();
            case 7: return now.countPieces();
            case 8: return now.outline();
            case 9: return count(now.hull());
            case 10: return now.exchanges().size();
            default: throw new IllegalArgumentException();
        }
    }

    private static int count(boolean[][] cells) {
        int n = 0;
        for (boolean[] row : cells) {
            for (boolean is : row) {
                n += is ? 1 : 0;
            }
        }
        return n;
    }

    private int wantedFrom(int first, int end) {
        int n = 0;
        for (int l = first; l < end; l++) {
            n += now.wanted[l];
        }
        return n;
    }

    private void needLine(int l) {
        if (l < 0 || l >= now.lines()) {
            throw new IndexOutOfBoundsException();
        }
    }

    private void needCell(int r, int c) {
        if (r < 0 || r >= now.rows() || c < 0 || c >= now.columns()) {
            throw new IndexOutOfBoundsException();
        }
    }

    private static void need(boolean argument) {
        if (!argument) {
            throw new IllegalArgumentException();
        }
    }

    private static void needState(boolean state) {
        if (!state) {
            throw new IllegalStateException();
        }
    }

    int line(int l, int what) {
        needLine(l);
        need(what >= 0 && what <= 4);
        int runs = 0;
        int longest = 0;
        int run = 0;
        int pins = 0;
        for (int[] p : now.cellsOf(l)) {
            run = now.filled[p[0]][p[1]] ? run + 1 : 0;
            runs += run == 1 ? 1 : 0;
            longest = Math.max(longest, run);
            pins += now.pinned[p[0]][p[1]] ? 1 : 0;
        }
        return new int[] {now.count(l), now.wanted[l], runs, longest, pins}[what];
    }

    int cell(int r, int c, int what) {
        needCell(r, c);
        switch (what) {
            case 0: return now.filled[r][c] ? 1 : 0;
            case 1: return now.pinned[r][c] ? 1 : 0;
            case 2: return now.pieces()[r][c];
            case 3: return now.hull()[r][c] ? 1 : 0;
            case 4: return sureAs(r, c, true) || sureAs(r, c, false) ? 1 : 0;
            default: throw new IllegalArgumentException();
        }
    }

    /** Whether there are fitting pictures and the cell is so in all of them. */
    private boolean sureAs(int r, int c, boolean filled) {
        if (new Ways(now).count() == 0) {
            return false;
        }
        State other = now.twin();
        if (other.pinned[r][c]) {
            return other.filled[r][c] == filled;
        }
        other.pinned[r][c] = true;
        other.filled[r][c] = !filled;
        return new Ways(other).count() == 0;
    }

    int piece(int p, int what) {
        if (p < 0 || p >= now.countPieces()) {
            throw new IndexOutOfBoundsException();
        }
        need(what >= 0 && what <= 4);
        int[][] pieces = now.pieces();
        int cells = 0;
        int rows = 0;
        int columns = 0;
        int first = NONE;
        for (int r = 0; r < now.rows(); r++) {
            for (int c = 0; c < now.columns(); c++) {
                if (pieces[r][c] == p) {
                    cells++;
                    rows |= 1 << r;
                    columns |= 1 << c;
                    first = first == NONE ? 10 * r + c : first;
                }
            }
        }
        return new int[] {cells, now.outline(pieces, p), Integer.bitCount(rows),
            Integer.bitCount(columns), first}[what];
    }

    int exchangeAt(int i) {
        need(i >= 0);
        List<int[]> all = now.exchanges();
        if (i >= all.size()) {
            return NONE;
        }
        int[] e = all.get(i);
        return 1000 * e[0] + 100 * e[1] + 10 * e[2] + e[3];
    }

    int whyNot(int l) {
        needLine(l);
        int canBe = 0;
        int must = 0;
        for (int[] p : now.cellsOf(l)) {
            boolean pinned = now.pinned[p[0]][p[1]];
            boolean filled = now.filled[p[0]][p[1]];
            canBe += pinned && !filled ? 0 : 1;
            must += pinned && filled ? 1 : 0;
        }
        int wanted = now.wanted[l];
        return now.count(l) == wanted ? 0 : wanted > canBe ? 1 : wanted < must ? 2 : 3;
    }

    private void remember() {
        remembered.addLast(now.twin());
        if (remembered.size() > 14) {
            remembered.removeFirst();
        }
    }

    int resize(int rows, int columns) {
        need(rows >= 1 && rows <= 6 && columns >= 1 && columns <= 6);
        remember();
        State then = new State();
        then.filled = new boolean[rows][columns];
        then.pinned = new boolean[rows][columns];
        then.wanted = new int[rows + columns];
        for (int r = 0; r < rows && r < now.rows(); r++) {
            for (int c = 0; c < columns && c < now.columns(); c++) {
                then.filled[r][c] = now.filled[r][c];
                then.pinned[r][c] = now.pinned[r][c];
            }
        }
        for (int r = 0; r < rows && r < now.rows(); r++) {
            then.wanted[r] = now.wanted[r];
        }
        for (int c = 0; c < columns && c < now.columns(); c++) {
            then.wanted[rows + c] = now.wanted[now.rows() + c];
        }
        now = then;
        return now.count();
    }

    int fill(int r, int c, boolean is) {
        needCell(r, c);
        needState(!now.pinned[r][c]);
        remember();
        boolean was = now.filled[r][c];
        now.filled[r][c] = is;
        return was ? 1 : 0;
    }

    int pin(int r, int c, boolean is) {
        needCell(r, c);
        remember();
        boolean was = now.pinned[r][c];
        now.pinned[r][c] = is;
        return was ? 1 : 0;
    }

    int want(int l, int n) {
        needLine(l);
        need(n >= 0 && n <= 6);
        remember();
        int was = now.wanted[l];
        now.wanted[l] = n;
        return was;
    }

    int wantAll() {
        remember();
        int n = now.wrongLines();
        for (int l = 0; l < now.lines(); l++) {
            now.wanted[l] = now.count(l);
        }
        return n;
    }

    int exchange(int r, int s, int c, int d) {
        needCell(r, c);
        needCell(s, d);
        need(s > r && d > c);
        needState(now.possible(r, s, c, d));
        remember();
        now.doExchange(new int[] {r, s, c, d});
        return now.countPieces();
    }

    private int becomeFirst(List<int[]> found) {
        needState(!found.isEmpty());
        remember();
        int changed = 0;
        Ways ways = new Ways(now);
        for (int r = 0; r < now.rows(); r++) {
            for (int c = 0; c < now.columns(); c++) {
                boolean filled = ways.has(found.get(0)[r], c);
                changed += filled == now.filled[r][c] ? 0 : 1;
                now.filled[r][c] = filled;
            }
        }
        return changed;
    }

    int solve(int which) {
        need(which == 0 || which == 1);
        return becomeFirst(new Ways(now).list(null, which == 1, 1));
    }

    int next() {
        Ways ways = new Ways(now);
        return becomeFirst(ways.list(ways.present(), false, 1));
    }

    int turn() {
        remember();
        State then = new State();
        int rows = now.rows();
        int columns = now.columns();
        then.filled = new boolean[columns][rows];
        then.pinned = new boolean[columns][rows];
        then.wanted = new int[rows + columns];
        for (int r = 0; r < rows; r++) {
            then.wanted[columns + rows - 1 - r] = now.wanted[r];
            for (int c = 0; c < columns; c++) {
                then.filled[c][rows - 1 - r] = now.filled[r][c];
                then.pinned[c][rows - 1 - r] = now.pinned[r][c];
            }
        }
        for (int c = 0; c < columns; c++) {
            then.wanted[c] = now.wanted[rows + c];
        }
        now = then;
        return columns;
    }

    int undo() {
        needState(!remembered.isEmpty());
        now = remembered.removeLast();
        return remembered.size();
    }

    int howMany() {
        return (int) Math.min(100, new Ways(now).count());
    }

    int sure(boolean filled) {
        int n = 0;
        for (int r = 0; r < now.rows(); r++) {
            for (int c = 0; c < now.columns(); c++) {
                n += sureAs(r, c, filled) ? 1 : 0;
            }
        }
        return n;
    }

    int split() {
        int many = howMany();
        if (many < 2 || many == 100) {
            return NONE;
        }
        int best = NONE;
        int most = -1;
        for (int r = 0; r < now.rows(); r++) {
            for (int c = 0; c < now.columns(); c++) {
                int filled = 0;
                Ways ways = new Ways(now);
                for (int[] rows : ways.list(null, false, 100)) {
                    filled += ways.has(rows[r], c) ? 1 : 0;
                }
                if (Math.min(filled, many - filled) > most) {
                    most = Math.min(filled, many - filled);
                    best = 10 * r + c;
                }
            }
        }
        return best;
    }

    int nearest() {
        int many = howMany();
        needState(many != 0 && many != 100);
        int least = 99;
        Ways ways = new Ways(now);
        int[] present = ways.present();
        for (int[] rows : ways.list(null, false, 100)) {
            int differ = 0;
            for (int r = 0; r < rows.length; r++) {
                differ += Integer.bitCount(rows[r] ^ present[r]);
            }
            least = Math.min(least, differ);
        }
        return least;
    }

    int bestExchange() {
        int best = NONE;
        int least = Integer.MAX_VALUE;
        List<int[]> all = now.exchanges();
        for (int i = 0; i < all.size(); i++) {
            State then = now.twin();
            then.doExchange(all.get(i));
            int weight = 1000 * then.countPieces() + then.outline();
            if (weight < least) {
                least = weight;
                best = i;
            }
        }
        return best;
    }

    int runScript(int n, long script) {
        need(n >= 1 && n <= 4);
        need(script >= 0 && Long.toString(script).length() <= 4 * n);
        StringBuilder digits = new StringBuilder(Long.toString(script));
        while (digits.length() < 4 * n) {
            digits.insert(0, '0');
        }
        Model twin = new Model();
        twin.now = now.twin();
        for (int i = 0; i < n; i++) {
            if (!twin.command(digits.substring(4 * i, 4 * i + 4))) {
                return i;
            }
        }
        return NONE;
    }

    private boolean command(String group) {
        int a = group.charAt(1) - '0';
        int b = group.charAt(2) - '0';
        int i = group.charAt(3) - '0';
        try {
            if (group.matches("1..[01]")) {
                fill(a, b, i == 1);
            } else if (group.matches("2..[01]")) {
                pin(a, b, i == 1);
            } else if (group.startsWith("3")) {
                want(10 * a + b, i);
            } else if (group.startsWith("400")) {
                solve(i);
            } else if (group.equals("5000")) {
                turn();
            } else if (group.equals("6000")) {
                next();
            } else if (group.startsWith("70")) {
                return now.countPieces() <= 10 * b + i;
            } else if (group.startsWith("80")) {
                return now.outline() <= 10 * b + i;
            } else if (group.startsWith("900")) {
                return now.wrongLines() <= i;
            } else {
                return false;
            }
        } catch (RuntimeException e) {
            return false;
        }
        return true;
    }

    int simulate(long seed, int m) {
        need(m >= 1 && m <= 99);
        State then = now.twin();
        long x = seed;
        for (int i = 0; i < m; i++) {
            x = x * 6364136223846793005L + 1442695040888963407L;
            int r = (int) (x >>> 33);
            List<int[]> all = then.exchanges();
            if (!all.isEmpty()) {
                then.doExchange(all.get(r % all.size()));
            }
        }
        return 100 * then.countPieces() + then.outline();
    }

    int save(int slot) {
        if (slot < 0 || slot > 1) {
            throw new IndexOutOfBoundsException();
        }
        slots[slot] = now.twin();
        return now.count();
    }

    int restore(int slot) {
        if (slot < 0 || slot > 1) {
            throw new IndexOutOfBoundsException();
        }
        needState(slots[slot] != null);
        now = slots[slot].twin();
        remembered.clear();
        return now.count();
    }
}
