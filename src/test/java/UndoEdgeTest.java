import java.util.function.Consumer;

/** Promises 20 and 21 and the terms of actions and exceptions, sentence by sentence. */
public final class UndoEdgeTest {
    private static final String PICTURE = "P23#.,%#.:21435";
    private static final String LOOSE = "P23#.,.#.:11110";

    // ---- turn

    private static void turned(String text, String due) {
        CountedCells x = Checks.of(text);
        Checks.is("turn of " + text, due.charAt(1) - '0', x.turn());
        Checks.is("turn of " + text + " shown", due, Checks.show(x));
        CountedCells fresh = Checks.of(due);
        for (int what = 0; what <= 10; what++) {
            Checks.is("about(" + what + ") behind the turn", fresh.about(what), x.about(what));
        }
        fresh.resize(6, 6);
        x.resize(6, 6);
        Checks.is("nothing is left outside of " + due, Checks.show(fresh), Checks.show(x));
    }

    private static void turnCells() {
        Checks.sentence(20, "the cell (r, c) becomes the cell (c, rows - 1 - r), where rows is the "
                + "number of rows before");
        for (int r = 0; r < 2; r++) {
            for (int c = 0; c < 3; c++) {
                CountedCells x = Checks.of("P23......");
                x.fill(r, c, true);
                x.turn();
                Checks.is("filled (" + r + "," + c + ")", 1, x.cell(c, 1 - r, 0));
                Checks.is("one filled cell", 1, x.about(2));
            }
        }
        turned("P66" + ".....#" + "......".repeat(4) + "%.....",
            "P66" + "%....." + "......".repeat(4) + ".....#:100001100001");
    }

    private static void turnLines() {
        Checks.sentence(20, "Pins and wanted counts go along with cells and lines.");
        turned(PICTURE, "P32%##..,:43512");
        turned("P32%##..,:43512", "P23.#%,.#:12534");
        turned("P16#..,.%:6543210", "P61#..,.%:5432106");
        turned("P61#..,.%:6543210", "P16%.,..#:0123456");
        turned("P11%:12", "P11%:21");
        turned("P66" + ",".repeat(36) + ":012345654321", "P66" + ",".repeat(36)
                + ":654321543210");
        CountedCells x = Checks.of(PICTURE);
        for (int i = 0; i < 4; i++) {
            x.turn();
        }
        Checks.is("four quarters", PICTURE, Checks.show(x));
    }

    private static void turnReturns() {
        Checks.sentence(20, "Returns the number of rows then.");
        for (int rows = 1; rows <= 6; rows++) {
            for (int columns = 1; columns <= 6; columns++) {
                CountedCells x = new CountedCells();
                x.resize(rows, columns);
                Checks.is("turn", columns, x.turn());
                Checks.is("turn again", rows, x.turn());
            }
        }
    }

    // ---- actions

    private static void takesBack(String text, Consumer<CountedCells> action) {
        CountedCells x = Checks.of(text);
        action.accept(x);
        boolean differs = !text.equals(Checks.show(x));
        Checks.is("something becomes different", true, differs);
        Checks.is("undo", 0, x.undo());
        Checks.is("undone", text, Checks.show(x));
    }

    private static void allComesBack() {
        Checks.term("Before each action, the state is remembered.");
        Checks.sentence(21, "Takes back the last action that is remembered.");
        takesBack(PICTURE, x -> x.resize(1, 1));
        takesBack(PICTURE, x -> x.resize(6, 6));
        takesBack(PICTURE, x -> x.fill(0, 0, false));
        takesBack(PICTURE, x -> x.fill(0, 1, true));
        takesBack(PICTURE, x -> x.pin(0, 0, true));
        takesBack(PICTURE, x -> x.pin(1, 0, false));
        takesBack(PICTURE, x -> x.want(0, 6));
        takesBack(PICTURE, x -> x.want(4, 0));
        takesBack(PICTURE, x -> x.wantAll());
        takesBack(PICTURE, x -> x.turn());
        takesBack(LOOSE, x -> x.exchange(0, 1, 0, 1));
        takesBack(LOOSE, x -> x.solve(0));
        takesBack("P23.#,#..:11110", x -> x.solve(1));
        takesBack("P23.#,#..:11110", x -> x.next());
    }

    private static void remembersLike(String what, String text, Consumer<CountedCells> action) {
        CountedCells x = Checks.of(text);
        x.pin(0, 0, true);
        x.undo();
        x.want(0, 0);
        x.want(0, text.charAt(text.indexOf(':') + 1) - '0');
        action.accept(x);
        Checks.is(what + " changes no cell", text, Checks.show(x));
        Checks.is(what + " is an action", 2, x.undo());
        Checks.is(what + " undone", text, Checks.show(x));
        Checks.is("the one before", 1, x.undo());
        Checks.is("the one before undone", 0, x.line(0, 1));
    }

    private static void emptyActions() {
        Checks.term("Each call of one of them that does not throw an exception is an action, also "
                + "if nothing becomes different (undo is none).");
        remembersLike("resize", LOOSE, x -> x.resize(2, 3));
        remembersLike("fill of a filled cell", LOOSE, x -> x.fill(0, 0, true));
        remembersLike("fill of an empty cell", LOOSE, x -> x.fill(0, 1, false));
        remembersLike("pin of a pinned cell", LOOSE, x -> x.pin(0, 2, true));
        remembersLike("pin of another cell", LOOSE, x -> x.pin(0, 0, false));
        remembersLike("want", LOOSE, x -> x.want(4, 0));
        remembersLike("wantAll", LOOSE, x -> x.wantAll());
        remembersLike("solve(1)", LOOSE, x -> x.solve(1));
        remembersLike("solve(0)", "P22.##.:1111", x -> x.solve(0));
        remembersLike("turn", "P11,:55", x -> x.turn());
    }

    private static void undoIsNone() {
        Checks.term("(undo is none)");
        CountedCells x = Checks.of("P11.:00");
        x.fill(0, 0, true);
        x.want(0, 3);
        Checks.is("first undo", 1, x.undo());
        Checks.is("second undo", 0, x.undo());
        Checks.is("no way back", "P11.:00", Checks.show(x));
        Checks.failsWith("third undo", Checks.STATE, () -> x.undo());
    }

    /** An object of three lines behind so many changes; no two of 21 states in a row are alike. */
    private static CountedCells changed(int many) {
        CountedCells x = Checks.of("P12..:000");
        for (int i = 1; i <= many; i++) {
            x.want(i % 3, i / 3 % 7);
        }
        return x;
    }

    private static String stateBehind(int many) {
        int[] wanted = new int[3];
        for (int i = 1; i <= many; i++) {
            wanted[i % 3] = i / 3 % 7;
        }
        return "P12..:" + wanted[0] + wanted[1] + wanted[2];
    }

    private static void fourteen() {
        Checks.term("At most 14 states are remembered; when one more is remembered, the oldest one "
                + "is forgotten.");
        Checks.sentence(21, "Returns how many states are still remembered.");
        for (int many : new int[] {1, 13, 14, 15, 16, 27, 28, 29, 100, 330}) {
            CountedCells x = changed(many);
            int undone = Math.min(many, 14);
            for (int i = 1; i <= undone; i++) {
                Checks.is("undo " + i + " of " + many, undone - i, x.undo());
                Checks.is("undone " + i + " of " + many, stateBehind(many - i), Checks.show(x));
            }
            Checks.failsWith("undo of what is forgotten", Checks.STATE, () -> x.undo());
        }
        CountedCells x = changed(20);
        for (int i = 0; i < 5; i++) {
            x.undo();
        }
        for (int i = 0; i < 9; i++) {
            x.pin(0, 0, i % 2 == 0);
        }
        Checks.is("14 again, 5 of them older", 13, x.undo());
    }

    private static void undoRefused() {
        Checks.sentence(21, "IllegalStateException if none is remembered");
        Checks.refuses("undo of a new object", Checks.STATE, CountedCells::new, x -> x.undo());
        Checks.refuses("undo behind load", Checks.STATE, () -> {
            CountedCells x = Checks.rich(PICTURE);
            x.load();
            x.save(1);
            return x;
        }, x -> x.undo());
        Checks.refuses("undo behind restore", Checks.STATE, () -> {
            CountedCells x = Checks.rich(PICTURE);
            x.restore(1);
            return x;
        }, x -> x.undo());
        Checks.refuses("undo behind 14 undos", Checks.STATE, () -> {
            CountedCells x = Checks.rich(PICTURE);
            for (int i = 0; i < 14; i++) {
                x.undo();
            }
            return x;
        }, x -> x.undo());
    }

    private static void stateWithout() {
        Checks.term("The methods in the section \"actions\" change the state, which consists of "
                + "everything but the text and the save slots.");
        CountedCells x = Checks.of("P11.:00");
        x.pin(0, 0, true);
        x.save(1);
        x.append('x');
        x.undo();
        Checks.is("undo leaves the text", 8, x.clearText());
        Checks.is("undo leaves the save slots", 0, x.restore(1));
        Checks.is("as it was saved", "P11,:00", Checks.show(x));
    }

    private static void refusedAreNone() {
        Checks.term("A call that throws an exception changes nothing.");
        CountedCells x = Checks.of("P22%..#:1111");
        x.want(0, 1);
        Checks.failsWith("resize", Checks.ARGUMENT, () -> x.resize(7, 1));
        Checks.failsWith("fill", Checks.STATE, () -> x.fill(0, 0, false));
        Checks.failsWith("pin", Checks.INDEX, () -> x.pin(2, 0, true));
        Checks.failsWith("want", Checks.ARGUMENT, () -> x.want(0, 7));
        Checks.failsWith("exchange", Checks.STATE, () -> x.exchange(0, 1, 0, 1));
        Checks.failsWith("solve", Checks.ARGUMENT, () -> x.solve(2));
        Checks.failsWith("next", Checks.STATE, () -> x.next());
        Checks.is("only want is remembered", 0, x.undo());
        Checks.failsWith("undo", Checks.STATE, () -> x.undo());
        Checks.is("shown", "P22%..#:1111", Checks.show(x));
    }

    private static void lastCall() {
        Checks.term("An object is used for at most 512 calls after it has been made");
        CountedCells x = new CountedCells();
        for (int i = 0; i < 497; i++) {
            x.turn();
        }
        for (int i = 13; i >= 0; i--) {
            Checks.is("undo", i, x.undo());
        }
        Checks.failsWith("the 512th call", Checks.STATE, () -> x.undo());
    }

    public static void main(String[] args) {
        turnCells();
        turnLines();
        turnReturns();
        allComesBack();
        emptyActions();
        undoIsNone();
        fourteen();
        undoRefused();
        stateWithout();
        refusedAreNone();
        lastCall();
        Checks.end();
    }
}
