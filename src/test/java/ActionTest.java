/** Promises 12 to 21: actions and undo. */
public final class ActionTest {
    private static void resize() {
        CountedCells x = Checks.of("P23#%.,.#:21435");
        Checks.is("resize: wider", 3, x.resize(3, 4));
        Checks.is("resize: wider", "P34#%..,.#.....:2104350", Checks.show(x));
        Checks.is("resize: smaller", 1, x.resize(2, 1));
        Checks.is("resize: smaller", "P21#,:214", Checks.show(x));
        Checks.is("resize: nothing comes back", 1, x.resize(3, 3));
        Checks.is("resize: nothing comes back", "P33#..,.....:210400", Checks.show(x));
        Checks.is("resize: the same size is an action", 1, x.resize(3, 3));
        Checks.is("resize: undo", 3, x.undo());
        x.undo();
        x.undo();
        x.undo();
        Checks.is("resize: undone", "P23#%.,.#:21435", Checks.show(x));
        Checks.is("resize: largest", 3, x.resize(6, 6));
        Checks.is("resize: smallest", 1, x.resize(1, 1));
    }

    private static void fill() {
        CountedCells x = Checks.of("P23..,%#.");
        Checks.is("fill", false, x.fill(0, 0, true));
        Checks.is("fill again", true, x.fill(0, 0, true));
        Checks.is("fill: empty", true, x.fill(1, 1, false));
        Checks.is("fill: shown", "P23#.,%..:02110", Checks.show(x));
        Checks.is("fill: undo", 2, x.undo());
        Checks.is("fill: undo of nothing different", 1, x.undo());
        Checks.is("fill: undo", "P23#.,%#.:02110", Checks.show(x));
    }

    private static void pin() {
        CountedCells x = Checks.of("P23..,%#.");
        Checks.is("pin", false, x.pin(0, 0, true));
        Checks.is("pin again", true, x.pin(0, 0, true));
        Checks.is("pin: unpin", true, x.pin(1, 0, false));
        Checks.is("pin: not pinned", false, x.pin(1, 2, false));
        Checks.is("pin: shown", "P23,.,##.:02110", Checks.show(x));
        Checks.is("pin: undo", 3, x.undo());
        Checks.is("pin: undo", 2, x.undo());
        Checks.is("pin: undone", "P23,.,%#.:02110", Checks.show(x));
    }

    private static void want() {
        CountedCells x = Checks.of("P23#.,%#.");
        Checks.is("want", 1, x.want(0, 6));
        Checks.is("want again", 6, x.want(0, 6));
        Checks.is("want of the last column", 0, x.want(4, 3));
        Checks.is("want of the first column", 2, x.want(2, 0));
        Checks.is("want: shown", "P23#.,%#.:62013", Checks.show(x));
        Checks.is("want: undo", 3, x.undo());
        Checks.is("want: undone", "P23#.,%#.:62213", Checks.show(x));
    }

    private static void wantAll() {
        CountedCells x = Checks.of("P23#.,%#.:10060");
        Checks.is("wantAll", 3, x.wantAll());
        Checks.is("wantAll: shown", "P23#.,%#.:12210", Checks.show(x));
        Checks.is("wantAll again", 0, x.wantAll());
        Checks.is("wantAll: undo", 1, x.undo());
        Checks.is("wantAll: undo", 0, x.undo());
        Checks.is("wantAll: undone", "P23#.,%#.:10060", Checks.show(x));
    }

    private static void exchange() {
        CountedCells x = Checks.of("P33#.##.#.#,");
        Checks.is("exchange", 3, x.exchange(1, 2, 0, 1));
        Checks.is("exchange: shown", "P33#.#.###.,:221212", Checks.show(x));
        Checks.is("exchange: back", 3, x.exchange(1, 2, 0, 1));
        Checks.is("exchange: shown", "P33#.##.#.#,:221212", Checks.show(x));
        Checks.is("exchange: undo", 1, x.undo());
        x.undo();
    }

    private static void solve() {
        CountedCells x = Checks.of("P33#.#.#.#.#:111111");
        Checks.is("solve(0)", 2, x.solve(0));
        Checks.is("solve(0): shown", "P33..#.#.#..:111111", Checks.show(x));
        Checks.is("solve(1)", 4, x.solve(1));
        Checks.is("solve(1): shown", "P33#...#...#:111111", Checks.show(x));
        Checks.is("solve(1) again is an action", 0, x.solve(1));
        Checks.is("solve: undo", 2, x.undo());
        x.undo();
        x.undo();
        Checks.is("solve: undone", "P33#.#.#.#.#:111111", Checks.show(x));
        x.pin(0, 1, true);
        x.pin(0, 2, true);
        Checks.is("solve(0) with pins", 2, x.solve(0));
        Checks.is("solve(0) with pins", "P33.,%.#.#..:111111", Checks.show(x));
        Checks.is("solve(1) with pins", 4, x.solve(1));
        Checks.is("solve(1) with pins", "P33.,%#...#.:111111", Checks.show(x));
    }

    private static void next() {
        CountedCells x = Checks.of("P33..#.#.#..");
        String[] due = {"..##...#.", ".#...##..", ".#.#....#", "#....#.#.", "#...#...#"};
        int[] changed = {4, 6, 4, 6, 4};
        for (int i = 0; i < due.length; i++) {
            Checks.is("next " + i, changed[i], x.next());
            Checks.is("next " + i, "P33" + due[i] + ":111111", Checks.show(x));
        }
        Checks.failsWith("next behind the last", Checks.STATE, () -> x.next());
        Checks.is("next: undo", 4, x.undo());
        // Cells that do not fit: the first picture behind them need not be the first of all.
        CountedCells y = Checks.of("P33.#.###...:111111");
        Checks.is("next of what does not fit", 5, y.next());
        Checks.is("next of what does not fit", "P33#....#.#.:111111", Checks.show(y));
        CountedCells z = Checks.of("P33.........:111111");
        Checks.is("next of empty cells", 3, z.next());
        Checks.is("next of empty cells", "P33..#.#.#..:111111", Checks.show(z));
        CountedCells w = Checks.of("P33##.......:111111");
        Checks.failsWith("next: all come before", Checks.STATE, () -> w.next());
        CountedCells pinned = Checks.of("P33..%.#.#..");
        Checks.is("next with a pin", 4, pinned.next());
        Checks.is("next with a pin", "P33..%#...#.:111111", Checks.show(pinned));
        Checks.failsWith("next behind the pinned one", Checks.STATE, () -> pinned.next());
    }

    private static void turn() {
        CountedCells x = Checks.of("P23#%.,.#:21435");
        Checks.is("turn", 3, x.turn());
        Checks.is("turn: shown", "P32,#.%#.:43512", Checks.show(x));
        Checks.is("turn twice", 2, x.turn());
        Checks.is("turn twice", "P23#.,.%#:12534", Checks.show(x));
        Checks.is("turn: undo", 1, x.undo());
        x.turn();
        x.turn();
        x.turn();
        Checks.is("turn four times", "P23#%.,.#:21435", Checks.show(x));
        CountedCells line = Checks.of("P16#..%..:2110100");
        Checks.is("turn of a row", 6, line.turn());
        Checks.is("turn of a row", "P61#..%..:1101002", Checks.show(line));
        Checks.is("turn of a column", 1, line.turn());
        Checks.is("turn of a column", "P16..%..#:2001011", Checks.show(line));
    }

    private static void undo() {
        CountedCells x = new CountedCells();
        for (int i = 0; i < 20; i++) {
            x.want(0, i % 7);
        }
        for (int i = 0; i < 14; i++) {
            Checks.is("undo " + i, 13 - i, x.undo());
            Checks.is("undone " + i, (18 - i) % 7, x.line(0, 1));
        }
        Checks.failsWith("undo of what is forgotten", Checks.STATE, () -> x.undo());
        Checks.is("undo that throws changes nothing", 5, x.line(0, 1));
        x.fill(0, 0, true);
        x.fill(1, 1, true);
        Checks.is("undo is no action", 1, x.undo());
        Checks.is("undo is no action", 0, x.undo());
        Checks.is("undo of fills", 0, x.about(2));
        Checks.failsWith("undo of nothing", Checks.STATE, () -> x.undo());
        x.save(0);
        x.append('P');
        Checks.failsWith("looking, saving and writing are no actions", Checks.STATE,
            () -> x.undo());
        x.pin(0, 0, true);
        x.append('1');
        x.undo();
        Checks.is("undo leaves the text", 2, x.clearText());
        x.pin(0, 0, true);
        x.save(1);
        x.undo();
        x.restore(1);
        Checks.is("undo leaves the save slots", 1, x.about(3));
    }

    public static void main(String[] args) {
        resize();
        fill();
        pin();
        want();
        wantAll();
        exchange();
        solve();
        next();
        turn();
        undo();
        Checks.end();
    }
}
