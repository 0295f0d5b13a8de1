/**
 * Pictures of filled and empty cells that are known by how many cells are filled in each row and
 * each column. The promises are in ../shared/DOC.md.
 */
public final class CountedCells {
    public static final int NONE = -9;

    /** Of one kind: rows or columns. */
    private static final int MOST_LINES = 6;
    private static final int MOST_WANTED = 6;
    private static final int MANY = 100;
    private static final int MOST_COMMANDS = 4;
    private static final int COMMAND_SIZE = 10000;
    private static final int MOST_ROUNDS = 99;

    private final Text text = new Text();
    private final Picture picture = new Picture();
    private final Picture copy = new Picture();
    private final History history = new History();
    private final Slots slots = new Slots();
    private final Fitter fitter = new Fitter();
    private final int[] tallies = new int[Cells.POSITIONS];

    public CountedCells() {
    }

    // ---- text

    public int append(int c) throws IllegalArgumentException, IllegalStateException {
        if (c < 0 || c > 255) {
            throw new IllegalArgumentException("no character code");
        }
        if (text.isFull()) {
            throw new IllegalStateException("the text is full");
        }
        return text.put((char) c);
    }

    public int clearText() {
        return text.empty();
    }

    public int errorPosition() {
        return text.firstError();
    }

    public int load() throws IllegalStateException {
        if (text.firstError() != NONE) {
            throw new IllegalStateException("the text is not a picture");
        }
        text.drawInto(picture);
        history.forgetAll();
        slots.forgetAll();
        return picture.countFilled();
    }

    // ---- what there is

    public int about(int what) throws IllegalArgumentException {
        switch (what) {
            case 0: return picture.rows;
            case 1: return picture.columns;
            case 2: return picture.countFilled();
            case 3: return Long.bitCount(picture.pinned);
            case 4: return picture.wantedOfRows();
            case 5: return picture.wantedOfColumns();
            case 6: return picture.countWrongLines();
            case 7: return Cells.countPieces(picture.filled);
            case 8: return Cells.outline(picture.filled, picture.filled);
            case 9: return Long.bitCount(Cells.hull(picture.filled));
            case 10: return picture.countExchanges();
            default: throw new IllegalArgumentException("what is not 0 to 10");
        }
    }

    public int line(int l, int what) throws IndexOutOfBoundsException, IllegalArgumentException {
        checkLine(l);
        long ofLine = picture.lineMask(l);
        switch (what) {
            case 0: return picture.countOf(l);
            case 1: return picture.wantedOf(l);
            case 2: return Cells.countRuns(picture.filled & ofLine, picture.stepIn(l));
            case 3: return Cells.longestRun(picture.filled & ofLine, picture.stepIn(l));
            case 4: return Long.bitCount(picture.pinned & ofLine);
            default: throw new IllegalArgumentException("what is not 0 to 4");
        }
    }

    public int cell(int r, int c, int what)
            throws IndexOutOfBoundsException, IllegalArgumentException {
        checkCell(r, c);
        long bit = Cells.bit(r, c);
        switch (what) {
            case 0: return oneIf((picture.filled & bit) != 0);
            case 1: return oneIf((picture.pinned & bit) != 0);
            case 2: return Cells.pieceNumber(picture.filled, bit);
            case 3: return oneIf((Cells.hull(picture.filled) & bit) != 0);
            case 4: return oneIf((fitter.sureCells(picture) & bit) != 0);
            default: throw new IllegalArgumentException("what is not 0 to 4");
        }
    }

    public int piece(int p, int what) throws IndexOutOfBoundsException, IllegalArgumentException {
        if (p < 0 || p >= Cells.countPieces(picture.filled)) {
            throw new IndexOutOfBoundsException("no such piece");
        }
        long cells = Cells.pieceNumbered(picture.filled, p);
        switch (what) {
            case 0: return Long.bitCount(cells);
            case 1: return Cells.outline(cells, picture.filled);
            case 2: return Cells.countRowsOf(cells);
            case 3: return Cells.countColumnsOf(cells);
            case 4: return Cells.code(Cells.firstPosition(cells));
            default: throw new IllegalArgumentException("what is not 0 to 4");
        }
    }

    public int exchangeAt(int i) throws IllegalArgumentException {
        if (i < 0) {
            throw new IllegalArgumentException("a negative number");
        }
        return picture.exchangeNumbered(i);
    }

    public int whyNot(int l) throws IndexOutOfBoundsException {
        checkLine(l);
        long ofLine = picture.lineMask(l);
        int wanted = picture.wantedOf(l);
        if (picture.countOf(l) == wanted) {
            return 0;
        }
        if (wanted > Long.bitCount(ofLine & ~(picture.pinned & ~picture.filled))) {
            return 1;
        }
        if (wanted < Long.bitCount(ofLine & picture.pinned & picture.filled)) {
            return 2;
        }
        return 3;
    }

    // ---- actions

    public int resize(int rows, int columns) throws IllegalArgumentException {
        if (rows < 1 || rows > MOST_LINES || columns < 1 || columns > MOST_LINES) {
            throw new IllegalArgumentException("no such size");
        }
        history.remember(picture);
        picture.cutTo(rows, columns);
        return picture.countFilled();
    }

    public boolean fill(int r, int c, boolean is)
            throws IndexOutOfBoundsException, IllegalStateException {
        checkCell(r, c);
        if (picture.isPinned(r, c)) {
            throw new IllegalStateException("the cell is pinned");
        }
        history.remember(picture);
        return picture.setFilled(r, c, is);
    }

    public boolean pin(int r, int c, boolean is) throws IndexOutOfBoundsException {
        checkCell(r, c);
        history.remember(picture);
        return picture.setPinned(r, c, is);
    }

    public int want(int l, int n) throws IndexOutOfBoundsException, IllegalArgumentException {
        checkLine(l);
        if (n < 0 || n > MOST_WANTED) {
            throw new IllegalArgumentException("no such count");
        }
        history.remember(picture);
        return picture.setWanted(l, n);
    }

    public int wantAll() {
        history.remember(picture);
        return picture.wantTheCounts();
    }

    public int exchange(int r, int s, int c, int d)
            throws IndexOutOfBoundsException, IllegalArgumentException, IllegalStateException {
        checkCell(r, c);
        checkCell(s, d);
        if (s <= r || d <= c) {
            throw new IllegalArgumentException("the second row or column is not the greater one");
        }
        if (!picture.canExchange(r, s, c, d)) {
            throw new IllegalStateException("the exchange is not possible");
        }
        history.remember(picture);
        picture.filled ^= Cells.corners(r, s, c, d);
        return Cells.countPieces(picture.filled);
    }

    public int solve(int which) throws IllegalArgumentException, IllegalStateException {
        if (which != 0 && which != 1) {
            throw new IllegalArgumentException("which is not 0 or 1");
        }
        if (!fitter.findOutermost(picture, which == 1)) {
            throw new IllegalStateException("no picture fits");
        }
        history.remember(picture);
        return picture.refill(fitter.found());
    }

    public int next() throws IllegalStateException {
        if (!fitter.findBehind(picture)) {
            throw new IllegalStateException("no picture fits behind this one");
        }
        history.remember(picture);
        return picture.refill(fitter.found());
    }

    public int turn() {
        history.remember(picture);
        picture.turnQuarter();
        return picture.rows;
    }

    public int undo() throws IllegalStateException {
        if (history.isEmpty()) {
            throw new IllegalStateException("nothing is remembered");
        }
        return history.takeBack(picture);
    }

    // ---- what would be

    public int howMany() {
        return countFitting();
    }

    public int sure(boolean filled) {
        long sureOnes = fitter.sureCells(picture);
        return Long.bitCount(filled ? sureOnes & fitter.found() : sureOnes & ~fitter.found());
    }

    public int split() {
        int many = countFitting();
        if (many < 2 || many >= MANY) {
            return NONE;
        }
        tallyFitting();
        return bestParted(many);
    }

    public int nearest() throws IllegalStateException {
        int many = countFitting();
        if (many < 1 || many >= MANY) {
            throw new IllegalStateException("no picture fits, or too many do");
        }
        return leastDistance();
    }

    public int bestExchange() {
        int best = NONE;
        int fewestPieces = 0;
        int smallestOutline = 0;
        int many = picture.countExchanges();
        for (int i = 0; i < many; i++) {
            long after = picture.filled ^ Cells.cornersOf(picture.exchangeNumbered(i));
            int pieces = Cells.countPieces(after);
            int outline = Cells.outline(after, after);
            if (best == NONE || pieces < fewestPieces
                    || pieces == fewestPieces && outline < smallestOutline) {
                best = i;
                fewestPieces = pieces;
                smallestOutline = outline;
            }
        }
        return best;
    }

    // ---- scripts, simulations

    public int runScript(int n, long script) throws IllegalArgumentException {
        if (n < 1 || n > MOST_COMMANDS) {
            throw new IllegalArgumentException("n is not 1 to 4");
        }
        long limit = 1;
        for (int i = 0; i < n; i++) {
            limit *= COMMAND_SIZE;
        }
        if (script < 0 || script >= limit) {
            throw new IllegalArgumentException("not a number of so many digits");
        }
        copy.copyFrom(picture);
        long unit = limit / COMMAND_SIZE;
        for (int i = 0; i < n && unit > 0; i++) {
            if (!succeeds((int) (script / unit % COMMAND_SIZE))) {
                return i;
            }
            unit /= COMMAND_SIZE;
        }
        return NONE;
    }

    public int simulate(long seed, int m) throws IllegalArgumentException {
        if (m < 1 || m > MOST_ROUNDS) {
            throw new IllegalArgumentException("m is not 1 to 99");
        }
        copy.copyFrom(picture);
        long x = seed;
        for (int i = 0; i < m; i++) {
            x = x * 6364136223846793005L + 1442695040888963407L;
            int r = (int) (x >>> 33);
            int many = copy.countExchanges();
            if (many > 0) {
                copy.filled ^= Cells.cornersOf(copy.exchangeNumbered(r % many));
            }
        }
        return 100 * Cells.countPieces(copy.filled) + Cells.outline(copy.filled, copy.filled);
    }

    // ---- save slots

    public int save(int slot) throws IndexOutOfBoundsException {
        checkSlot(slot);
        slots.put(slot, picture);
        return picture.countFilled();
    }

    public int restore(int slot) throws IndexOutOfBoundsException, IllegalStateException {
        checkSlot(slot);
        if (!slots.has(slot)) {
            throw new IllegalStateException("nothing is saved there");
        }
        slots.bringBack(slot, picture);
        history.forgetAll();
        return picture.countFilled();
    }

    // ---- checks of arguments

    private void checkLine(int l) {
        if (!picture.hasLine(l)) {
            throw new IndexOutOfBoundsException("no such line");
        }
    }

    private void checkCell(int r, int c) {
        if (!picture.hasCell(r, c)) {
            throw new IndexOutOfBoundsException("no such row or column");
        }
    }

    private void checkSlot(int slot) {
        if (slot != 0 && slot != 1) {
            throw new IndexOutOfBoundsException("no such save slot");
        }
    }

    private static int oneIf(boolean is) {
        return is ? 1 : 0;
    }

    // ---- all fitting pictures, one after the other

    private int countFitting() {
        int many = 0;
        boolean more = fitter.findOutermost(picture, false);
        while (more && many < MANY) {
            many++;
            more = fitter.advance(picture);
        }
        return many;
    }

    private void tallyFitting() {
        for (int i = 0; i < tallies.length; i++) {
            tallies[i] = 0;
        }
        boolean more = fitter.findOutermost(picture, false);
        for (int n = 0; more && n < MANY; n++) {
            for (int i = 0; i < tallies.length; i++) {
                tallies[i] += (int) (fitter.found() >>> i) & 1;
            }
            more = fitter.advance(picture);
        }
    }

    private int bestParted(int many) {
        int best = NONE;
        int most = 0;
        for (int i = 0; i < tallies.length; i++) {
            int smaller = Math.min(tallies[i], many - tallies[i]);
            if (smaller > most) {
                most = smaller;
                best = Cells.code(i);
            }
        }
        return best;
    }

    private int leastDistance() {
        int least = Cells.POSITIONS;
        boolean more = fitter.findOutermost(picture, false);
        for (int n = 0; more && n < MANY; n++) {
            least = Math.min(least, Long.bitCount(fitter.found() ^ picture.filled));
            more = fitter.advance(picture);
        }
        return least;
    }

    // ---- scripts

    private boolean succeeds(int command) {
        int a = command / 100 % 10;
        int b = command / 10 % 10;
        int i = command % 10;
        switch (command / 1000) {
            case 1: return scriptFills(a, b, i);
            case 2: return scriptPins(a, b, i);
            case 3: return scriptWants(10 * a + b, i);
            case 4: return a + b == 0 && i <= 1 && refilled(fitter.findOutermost(copy, i == 1));
            case 5: return a + b + i == 0 && scriptTurns();
            case 6: return a + b + i == 0 && refilled(fitter.findBehind(copy));
            case 7: return a == 0 && Cells.countPieces(copy.filled) <= 10 * b + i;
            case 8: return a == 0 && Cells.outline(copy.filled, copy.filled) <= 10 * b + i;
            case 9: return a + b == 0 && copy.countWrongLines() <= i;
            default: return false;
        }
    }

    private boolean scriptFills(int r, int c, int is) {
        if (is > 1 || !copy.hasCell(r, c) || copy.isPinned(r, c)) {
            return false;
        }
        copy.setFilled(r, c, is == 1);
        return true;
    }

    private boolean scriptPins(int r, int c, int is) {
        if (is > 1 || !copy.hasCell(r, c)) {
            return false;
        }
        copy.setPinned(r, c, is == 1);
        return true;
    }

    private boolean scriptWants(int l, int n) {
        if (n > MOST_WANTED || !copy.hasLine(l)) {
            return false;
        }
        copy.setWanted(l, n);
        return true;
    }

    private boolean scriptTurns() {
        copy.turnQuarter();
        return true;
    }

    private boolean refilled(boolean found) {
        if (found) {
            copy.refill(fitter.found());
        }
        return found;
    }

    /**
     * Sets of cells. A set is a long in which the cell (r, c) has the bit 8 * r + c: the two bits
     * that stay free behind each row keep a shift from carrying a cell into the next row, and the
     * order of the bits is the order of the cells.
     */
    private static final class Cells {
        static final int POSITIONS = 48;
        static final int ROW_STEP = 8;
        private static final long ROW = 0x3FL;
        static final long COLUMN = 0x010101010101L;

        private Cells() {
        }

        static long bit(int r, int c) {
            return 1L << (ROW_STEP * r + c);
        }

        static long rowMask(int r) {
            return ROW << (ROW_STEP * r);
        }

        static long columnMask(int c) {
            return COLUMN << c;
        }

        /** The cells of a row as bits of an int, the column 0 lowest. */
        static int inRow(long cells, int r) {
            return (int) (cells >>> (ROW_STEP * r)) & 0x3F;
        }

        static int rowAt(int position) {
            return position >> 3;
        }

        static int columnAt(int position) {
            return position & 7;
        }

        static int code(int position) {
            return 10 * rowAt(position) + columnAt(position);
        }

        static int firstPosition(long cells) {
            return Long.bitCount((cells & -cells) - 1);
        }

        static int outline(long some, long filled) {
            return Long.bitCount(some & ~(filled << 1)) + Long.bitCount(some & ~(filled >>> 1))
                    + Long.bitCount(some & ~(filled << ROW_STEP))
                    + Long.bitCount(some & ~(filled >>> ROW_STEP));
        }

        static int countRuns(long cellsOfLine, int step) {
            return Long.bitCount(cellsOfLine & ~(cellsOfLine << step));
        }

        static int longestRun(long cellsOfLine, int step) {
            int longest = 0;
            long ends = cellsOfLine;
            // Each turn leaves only the cells that end a run longer than the turns so far.
            for (int i = 0; i < MOST_LINES && ends != 0; i++) {
                longest++;
                ends &= ends << step;
            }
            return longest;
        }

        static int countRowsOf(long cells) {
            int many = 0;
            for (int r = 0; r < MOST_LINES; r++) {
                many += oneIf((cells & rowMask(r)) != 0);
            }
            return many;
        }

        static int countColumnsOf(long cells) {
            int many = 0;
            for (int c = 0; c < MOST_LINES; c++) {
                many += oneIf((cells & columnMask(c)) != 0);
            }
            return many;
        }

        /** The cells that hang together with the first one of the set. */
        static long firstPiece(long filled) {
            long reached = filled & -filled;
            for (int i = 0; i < POSITIONS; i++) {
                long grown = filled & (reached | reached << 1 | reached >>> 1
                        | reached << ROW_STEP | reached >>> ROW_STEP);
                if (grown == reached) {
                    break;
                }
                reached = grown;
            }
            return reached;
        }

        static int countPieces(long filled) {
            int many = 0;
            long rest = filled;
            for (int i = 0; i < POSITIONS && rest != 0; i++) {
                many++;
                rest &= ~firstPiece(rest);
            }
            return many;
        }

        static long pieceNumbered(long filled, int number) {
            long rest = filled;
            for (int i = 0; i < number && i < POSITIONS; i++) {
                rest &= ~firstPiece(rest);
            }
            return firstPiece(rest);
        }

        static int pieceNumber(long filled, long cell) {
            if ((filled & cell) == 0) {
                return NONE;
            }
            int number = 0;
            long rest = filled;
            for (int i = 0; i < POSITIONS && (firstPiece(rest) & cell) == 0; i++) {
                number++;
                rest &= ~firstPiece(rest);
            }
            return number;
        }

        static long hull(long filled) {
            long covered = filled;
            // Closing a column may open a row again, but each turn that changes it adds a cell.
            for (int i = 0; i < POSITIONS; i++) {
                long wider = between(between(covered, 1), ROW_STEP);
                if (wider == covered) {
                    break;
                }
                covered = wider;
            }
            return covered;
        }

        private static long between(long cells, int step) {
            long behind = cells;
            long ahead = cells;
            for (int i = 0; i < MOST_LINES; i++) {
                behind |= withinLines(behind << step);
                ahead |= withinLines(ahead >>> step);
            }
            return behind & ahead;
        }

        private static long withinLines(long cells) {
            return cells & ROW * COLUMN;
        }

        static long corners(int r, int s, int c, int d) {
            return bit(r, c) | bit(r, d) | bit(s, c) | bit(s, d);
        }

        static long cornersOf(int exchange) {
            if (exchange < 0) {
                return 0;
            }
            return corners(exchange / 1000, exchange / 100 % 10, exchange / 10 % 10, exchange % 10);
        }
    }

    /** Up to 16 small numbers, each 0 to 15, in the digits of one long. */
    private static final class Digits {
        private Digits() {
        }

        static int digit(long digits, int i) {
            return (int) (digits >>> (4 * i)) & 15;
        }

        static long changed(long digits, int i, int n) {
            return digits & ~(15L << (4 * i)) | (long) n << (4 * i);
        }

        static int total(long digits) {
            int total = 0;
            for (int i = 0; i < MOST_LINES; i++) {
                total += digit(digits, i);
            }
            return total;
        }
    }

    /** The state: everything but the text and the save slots. */
    private static final class Picture {
        int rows = 3;
        int columns = 3;
        long filled = 0;
        long pinned = 0;
        private long rowWants = 0;
        private long columnWants = 0;

        void copyFrom(Picture other) {
            rows = other.rows;
            columns = other.columns;
            filled = other.filled;
            pinned = other.pinned;
            rowWants = other.rowWants;
            columnWants = other.columnWants;
        }

        void beginBlank(int newRows, int newColumns) {
            rows = newRows;
            columns = newColumns;
            filled = 0;
            pinned = 0;
            rowWants = 0;
            columnWants = 0;
        }

        boolean hasCell(int r, int c) {
            return r >= 0 && r < rows && c >= 0 && c < columns;
        }

        boolean hasLine(int l) {
            return l >= 0 && l < rows + columns;
        }

        long board() {
            return ((1L << columns) - 1) * Cells.COLUMN & (1L << (Cells.ROW_STEP * rows)) - 1;
        }

        long lineMask(int l) {
            return board() & (l < rows ? Cells.rowMask(l) : Cells.columnMask(l - rows));
        }

        int stepIn(int l) {
            return l < rows ? 1 : Cells.ROW_STEP;
        }

        int countFilled() {
            return Long.bitCount(filled);
        }

        int countOf(int l) {
            return Long.bitCount(filled & lineMask(l));
        }

        int wantedOf(int l) {
            return l < rows ? Digits.digit(rowWants, l) : Digits.digit(columnWants, l - rows);
        }

        int wantedOfRows() {
            return Digits.total(rowWants);
        }

        int wantedOfColumns() {
            return Digits.total(columnWants);
        }

        int countWrongLines() {
            int wrong = 0;
            for (int l = 0; l < rows + columns; l++) {
                wrong += oneIf(countOf(l) != wantedOf(l));
            }
            return wrong;
        }

        boolean isPinned(int r, int c) {
            return (pinned & Cells.bit(r, c)) != 0;
        }

        boolean setFilled(int r, int c, boolean is) {
            long bit = Cells.bit(r, c);
            boolean was = (filled & bit) != 0;
            filled = is ? filled | bit : filled & ~bit;
            return was;
        }

        boolean setPinned(int r, int c, boolean is) {
            long bit = Cells.bit(r, c);
            boolean was = (pinned & bit) != 0;
            pinned = is ? pinned | bit : pinned & ~bit;
            return was;
        }

        int setWanted(int l, int n) {
            int was = wantedOf(l);
            if (l < rows) {
                rowWants = Digits.changed(rowWants, l, n);
            } else {
                columnWants = Digits.changed(columnWants, l - rows, n);
            }
            return was;
        }

        int wantTheCounts() {
            int changed = 0;
            for (int l = 0; l < rows + columns; l++) {
                int count = countOf(l);
                changed += oneIf(setWanted(l, count) != count);
            }
            return changed;
        }

        int refill(long cells) {
            int changed = Long.bitCount(filled ^ cells);
            filled = cells;
            return changed;
        }

        void cutTo(int newRows, int newColumns) {
            // Cells and lines that go away leave nothing behind: they may come again, as new ones.
            rows = newRows;
            columns = newColumns;
            filled &= board();
            pinned &= board();
            for (int r = newRows; r < MOST_LINES; r++) {
                rowWants = Digits.changed(rowWants, r, 0);
            }
            for (int c = newColumns; c < MOST_LINES; c++) {
                columnWants = Digits.changed(columnWants, c, 0);
            }
        }

        void turnQuarter() {
            long oldFilled = filled;
            long oldPinned = pinned;
            long oldRowWants = rowWants;
            int oldRows = rows;
            int oldColumns = columns;
            rows = oldColumns;
            columns = oldRows;
            rowWants = columnWants;
            columnWants = 0;
            filled = 0;
            pinned = 0;
            for (int r = 0; r < oldRows; r++) {
                int newColumn = oldRows - 1 - r;
                columnWants = Digits.changed(columnWants, newColumn, Digits.digit(oldRowWants, r));
                for (int c = 0; c < oldColumns; c++) {
                    long bit = Cells.bit(r, c);
                    setFilled(c, newColumn, (oldFilled & bit) != 0);
                    setPinned(c, newColumn, (oldPinned & bit) != 0);
                }
            }
        }

        boolean canExchange(int r, int s, int c, int d) {
            long corners = Cells.corners(r, s, c, d);
            long ofThese = filled & corners;
            return (pinned & corners) == 0
                    && (ofThese == (Cells.bit(r, c) | Cells.bit(s, d))
                    || ofThese == (Cells.bit(r, d) | Cells.bit(s, c)));
        }

        int countExchanges() {
            int many = 0;
            for (int r = 0; r < rows; r++) {
                for (int s = r + 1; s < rows; s++) {
                    many += countExchangesOf(r, s);
                }
            }
            return many;
        }

        private int countExchangesOf(int r, int s) {
            // Each column with the filled cell above goes with each one with the filled cell below.
            long changeable = ~pinned;
            int open = Cells.inRow(changeable, r) & Cells.inRow(changeable, s);
            int above = open & Cells.inRow(filled, r) & ~Cells.inRow(filled, s);
            int below = open & Cells.inRow(filled, s) & ~Cells.inRow(filled, r);
            return Integer.bitCount(above) * Integer.bitCount(below);
        }

        /** The exchange as the number 1000 * r + 100 * s + 10 * c + d, or NONE. */
        int exchangeNumbered(int number) {
            int left = number;
            for (int r = 0; r < rows; r++) {
                for (int s = r + 1; s < rows; s++) {
                    int many = countExchangesOf(r, s);
                    if (left < many) {
                        return 1000 * r + 100 * s + exchangedColumns(r, s, left);
                    }
                    left -= many;
                }
            }
            return NONE;
        }

        private int exchangedColumns(int r, int s, int number) {
            int left = number;
            for (int c = 0; c < columns; c++) {
                for (int d = c + 1; d < columns; d++) {
                    if (canExchange(r, s, c, d)) {
                        if (left == 0) {
                            return 10 * c + d;
                        }
                        left--;
                    }
                }
            }
            return 0;
        }
    }

    /** Finds fitting pictures without trying them all: it changes a fitting one along its lines. */
    private static final class Fitter {
        private final long[] waysToRows = new long[MOST_LINES];
        private long cells = 0;
        private long free = 0;

        long found() {
            return cells;
        }

        /** Finds the first fitting picture, or the last one. */
        boolean findOutermost(Picture p, boolean last) {
            if (!build(p, p.pinned, p.filled)) {
                return false;
            }
            settle(last);
            return true;
        }

        /** Finds the next fitting picture behind the cells of p, which need not fit. */
        boolean findBehind(Picture p) {
            long fillable = p.board() & ~p.pinned & ~p.filled;
            // The longer the part in front that stays, the earlier the picture.
            for (int i = Cells.POSITIONS - 1; i >= 0; i--) {
                long bit = 1L << i;
                if ((fillable & bit) != 0 && build(p, p.pinned | bit | (bit - 1), p.filled | bit)) {
                    settle(false);
                    return true;
                }
            }
            return false;
        }

        /** Goes on from a fitting picture of p that has been found to the next one. */
        boolean advance(Picture p) {
            long changeable = p.board() & ~p.pinned;
            free = 0;
            for (int i = Cells.POSITIONS - 1; i >= 0; i--) {
                long bit = 1L << i;
                if ((changeable & bit) != 0) {
                    if ((cells & bit) == 0 && change(i)) {
                        settle(false);
                        return true;
                    }
                    free |= bit;
                }
            }
            return false;
        }

        long sureCells(Picture p) {
            if (!build(p, p.pinned, p.filled)) {
                return 0;
            }
            long sureOnes = p.board();
            for (int i = 0; i < Cells.POSITIONS; i++) {
                long bit = 1L << i;
                if ((free & bit) != 0 && change(i)) {
                    sureOnes &= ~bit;
                }
            }
            return sureOnes;
        }

        /** Finds any picture with the wanted counts whose fixed cells are as in the given ones. */
        private boolean build(Picture p, long fixed, long given) {
            cells = given & fixed;
            free = p.board() & ~fixed;
            if (p.wantedOfRows() != p.wantedOfColumns() || hasTooFullLine(p)) {
                return false;
            }
            for (int r = 0; r < p.rows; r++) {
                int missing = p.wantedOf(r) - Long.bitCount(cells & Cells.rowMask(r));
                for (int i = 0; i < missing; i++) {
                    if (!shift(r, columnsWithRoom(p), free & ~cells, free & cells)) {
                        return false;
                    }
                }
            }
            return true;
        }

        private boolean hasTooFullLine(Picture p) {
            for (int l = 0; l < p.rows + p.columns; l++) {
                if (Long.bitCount(cells & p.lineMask(l)) > p.wantedOf(l)) {
                    return true;
                }
            }
            return false;
        }

        private int columnsWithRoom(Picture p) {
            int room = 0;
            for (int c = 0; c < p.columns; c++) {
                if (Long.bitCount(cells & Cells.columnMask(c)) < p.wantedOf(p.rows + c)) {
                    room |= 1 << c;
                }
            }
            return room;
        }

        /** Makes the free cells, in their order, empty (or filled) wherever that can be. */
        private void settle(boolean toFilled) {
            for (int i = 0; i < Cells.POSITIONS; i++) {
                long bit = 1L << i;
                boolean isFilled = (cells & bit) != 0;
                if ((free & bit) != 0) {
                    free &= ~bit;
                    if (isFilled != toFilled) {
                        change(i);
                    }
                }
            }
        }

        /** Changes a cell, and free cells so that all counts stay; false if that cannot be. */
        private boolean change(int position) {
            long bit = 1L << position;
            boolean wasFilled = (cells & bit) != 0;
            long filledOnes = free & cells;
            long emptyOnes = free & ~cells;
            boolean shifted = shift(Cells.rowAt(position), 1 << Cells.columnAt(position),
                    wasFilled ? emptyOnes : filledOnes, wasFilled ? filledOnes : emptyOnes);
            if (shifted) {
                cells ^= bit;
            }
            return shifted;
        }

        /**
         * Changes cells along a way from a row to one of the goal columns: from a row to a column
         * through a cell of forth, from a column to a row through a cell of back. All lines
         * between keep their counts. False, and no change, if there is no such way.
         */
        private boolean shift(int start, int goals, long forth, long back) {
            forgetWays();
            int rowsSeen = 1 << start;
            int rowsLeft = rowsSeen;
            int columnsSeen = 0;
            for (int i = 0; i < MOST_LINES && rowsLeft != 0; i++) {
                int r = Integer.bitCount((rowsLeft & -rowsLeft) - 1);
                rowsLeft &= rowsLeft - 1;
                for (int c = 0; c < MOST_LINES; c++) {
                    if ((forth & Cells.bit(r, c)) == 0 || (columnsSeen >> c & 1) != 0) {
                        continue;
                    }
                    columnsSeen |= 1 << c;
                    long way = wayToRow(r) | Cells.bit(r, c);
                    if ((goals >> c & 1) != 0) {
                        cells ^= way;
                        return true;
                    }
                    int entered = enterRows(c, way, back, ~rowsSeen);
                    rowsSeen |= entered;
                    rowsLeft |= entered;
                }
            }
            return false;
        }

        private int enterRows(int c, long way, long back, int unseen) {
            int entered = 0;
            for (int r = 0; r < waysToRows.length; r++) {
                long step = back & 1L << (Cells.ROW_STEP * r + c);
                if (step != 0 && (unseen >> r & 1) != 0) {
                    waysToRows[r] = way | step;
                    entered |= 1 << r;
                }
            }
            return entered;
        }

        private long wayToRow(int r) {
            return r >= 0 && r < waysToRows.length ? waysToRows[r] : 0;
        }

        private void forgetWays() {
            for (int r = 0; r < waysToRows.length; r++) {
                waysToRows[r] = 0;
            }
        }
    }

    /** The text buffer and the rules of a picture's text. */
    private static final class Text {
        private static final int LIMIT = 60;
        private static final int HEAD = 3;
        private final char[] signs = new char[LIMIT];
        private int length = 0;

        boolean isFull() {
            return length >= signs.length;
        }

        int put(char sign) {
            if (length >= 0 && length < signs.length) {
                signs[length] = sign;
                length++;
            }
            return length;
        }

        int empty() {
            int was = length;
            length = 0;
            return was;
        }

        private char signAt(int i) {
            return i >= 0 && i < length && i < signs.length ? signs[i] : (char) 0;
        }

        private int digitAt(int i) {
            return signAt(i) - '0';
        }

        private int cellsEnd() {
            return HEAD + digitAt(1) * digitAt(2);
        }

        int firstError() {
            for (int i = 0; i < length; i++) {
                if (!isAllowed(i)) {
                    return i;
                }
            }
            return isWhole() ? NONE : length;
        }

        /** Whether the sign at i is allowed, if all signs before it are. */
        private boolean isAllowed(int i) {
            if (i == 0) {
                return signAt(i) == 'P';
            }
            if (i < HEAD) {
                return isDigit(i, 1);
            }
            if (i < cellsEnd()) {
                return isCellSign(signAt(i));
            }
            if (i == cellsEnd()) {
                return signAt(i) == ':';
            }
            return i < wantsEnd() && isDigit(i, 0);
        }

        private boolean isWhole() {
            return length >= HEAD && (length == cellsEnd() || length == wantsEnd());
        }

        private int wantsEnd() {
            return cellsEnd() + 1 + digitAt(1) + digitAt(2);
        }

        private boolean isDigit(int i, int least) {
            return digitAt(i) >= least && digitAt(i) <= 6;
        }

        private static boolean isCellSign(char sign) {
            return sign == '.' || sign == '#' || sign == ',' || sign == '%';
        }

        /** Only for a text without an error. */
        void drawInto(Picture p) {
            p.beginBlank(digitAt(1), digitAt(2));
            for (int r = 0; r < p.rows; r++) {
                for (int c = 0; c < p.columns; c++) {
                    char sign = signAt(HEAD + r * p.columns + c);
                    p.setFilled(r, c, sign == '#' || sign == '%');
                    p.setPinned(r, c, sign == ',' || sign == '%');
                }
            }
            if (length == cellsEnd()) {
                p.wantTheCounts();
                return;
            }
            for (int l = 0; l < p.rows + p.columns; l++) {
                p.setWanted(l, digitAt(cellsEnd() + 1 + l));
            }
        }
    }

    /** The remembered states, the oldest one first. */
    private static final class History {
        private static final int LIMIT = 14;
        private final Picture[] states = new Picture[LIMIT];
        private int many = 0;

        History() {
            for (int i = 0; i < states.length; i++) {
                states[i] = new Picture();
            }
        }

        boolean isEmpty() {
            return many == 0;
        }

        void forgetAll() {
            many = 0;
        }

        void remember(Picture p) {
            if (many >= states.length) {
                forgetOldest();
            }
            if (many >= 0 && many < states.length && states[many] != null) {
                states[many].copyFrom(p);
                many++;
            }
        }

        private void forgetOldest() {
            // The object of the oldest one wanders to the end, where it is used again.
            for (int i = 1; i < states.length; i++) {
                Picture older = states[i - 1];
                states[i - 1] = states[i];
                states[i] = older;
            }
            many--;
        }

        int takeBack(Picture p) {
            if (many > 0 && many <= states.length && states[many - 1] != null) {
                many--;
                p.copyFrom(states[many]);
            }
            return many;
        }
    }

    /** The save slots. */
    private static final class Slots {
        private static final int LIMIT = 2;
        private final Picture[] states = new Picture[LIMIT];
        private final boolean[] used = new boolean[LIMIT];

        Slots() {
            for (int i = 0; i < states.length; i++) {
                states[i] = new Picture();
            }
        }

        void forgetAll() {
            for (int i = 0; i < used.length; i++) {
                used[i] = false;
            }
        }

        boolean has(int slot) {
            return slot >= 0 && slot < used.length && used[slot];
        }

        void put(int slot, Picture p) {
            if (slot >= 0 && slot < used.length && slot < states.length && states[slot] != null) {
                states[slot].copyFrom(p);
                used[slot] = true;
            }
        }

        void bringBack(int slot, Picture p) {
            if (slot >= 0 && slot < states.length && states[slot] != null) {
                p.copyFrom(states[slot]);
            }
        }
    }
}
