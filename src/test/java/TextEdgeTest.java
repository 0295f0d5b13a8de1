/** Promises 1 to 5 and the terms of the text, sentence by sentence: edges and refused calls. */
public final class TextEdgeTest {
    private static final int NONE = CountedCells.NONE;
    private static final String PICTURE = "P23#.,%#.:21435";
    private static final String LONGEST = "P66" + ".#,%".repeat(9) + ":" + "0123456".repeat(2)
            .substring(0, 12);

    private static CountedCells withText(String text) {
        CountedCells x = Checks.rich(PICTURE);
        Checks.write(x, text);
        return x;
    }

    // ---- a new object

    private static void newObject() {
        Checks.sentence(1, "Creates a picture of 3 rows and 3 columns of empty cells.");
        CountedCells x = new CountedCells();
        Checks.is("rows", 3, x.about(0));
        Checks.is("columns", 3, x.about(1));
        Checks.is("filled cells", 0, x.about(2));
        Checks.failsWith("cell(3,0,0)", Checks.INDEX, () -> x.cell(3, 0, 0));
        Checks.failsWith("cell(0,3,0)", Checks.INDEX, () -> x.cell(0, 3, 0));
    }

    private static void newObjectsLines() {
        Checks.term("In a new object there are 3 rows and 3 columns, all cells are empty, "
                + "none is pinned, and all wanted counts are 0.");
        CountedCells x = new CountedCells();
        Checks.is("shown", "P33.........:000000", Checks.show(x));
        for (int what = 2; what <= 10; what++) {
            Checks.is("about(" + what + ")", 0, x.about(what));
        }
    }

    private static void newObjectHoldsNothing() {
        Checks.term("The object has a text buffer of at most 60 characters.");
        Checks.is("a new one's text", 0, new CountedCells().clearText());
        Checks.is("a new one's first character", 1, new CountedCells().append('P'));
        Checks.term("Before each action, the state is remembered.");
        Checks.failsWith("a new one's undo", Checks.STATE, () -> new CountedCells().undo());
    }

    private static void none() {
        Checks.term("NONE = -9: There is no such result.");
        Checks.is("NONE", -9, CountedCells.NONE);
    }

    // ---- append

    private static void appendInRange() {
        Checks.sentence(2, "c: character code, 0 to 255");
        for (int c = 0; c <= 255; c++) {
            Checks.is("append(" + c + ")", 1, new CountedCells().append(c));
        }
    }

    private static void appendOutOfRange() {
        Checks.sentence(2, "IllegalArgumentException if c is out of range");
        for (int c : Checks.outside(0, 255)) {
            Checks.refuses("append(" + c + ")", Checks.ARGUMENT, PICTURE, x -> x.append(c));
        }
        // Their lowest eight or sixteen bits are a P.
        for (int c : new int[] {256 + 'P', 65536 + 'P', 'P' - 256}) {
            Checks.refuses("append(" + c + ")", Checks.ARGUMENT, () -> withText(""),
                x -> x.append(c));
        }
    }

    private static void appendToFull() {
        Checks.sentence(2, "Returns the new length of the text.");
        CountedCells x = new CountedCells();
        for (int i = 1; i <= 60; i++) {
            Checks.is("append", i, x.append(i));
        }
        Checks.sentence(2, "IllegalStateException if the text already has 60 characters");
        Checks.failsWith("append to 60", Checks.STATE, () -> x.append('P'));
        Checks.is("the text is as long as before", 60, x.clearText());
        String full = LONGEST + " ".repeat(8);
        for (int c : new int[] {0, 'P', ' ', 255}) {
            Checks.refuses("append(" + c + ")", Checks.STATE, () -> withText(full),
                y -> y.append(c));
        }
        Checks.is("59 and one", 60, withText("P".repeat(59)).append('P'));
    }

    private static void appendRefusedTwice() {
        Checks.term("If several exceptions apply to a call, the one that its description names "
                + "first is thrown.");
        for (int c : Checks.outside(0, 255)) {
            Checks.refuses("append(" + c + ") to 60", Checks.ARGUMENT,
                () -> withText("P".repeat(60)), x -> x.append(c));
        }
    }

    // ---- clearText

    private static void clearText() {
        Checks.sentence(3, "Returns the previous length of the text.");
        CountedCells x = new CountedCells();
        Checks.is("of none", 0, x.clearText());
        x.append('P');
        Checks.is("of one", 1, x.clearText());
        Checks.is("of none again", 0, x.clearText());
        Checks.write(x, "P".repeat(60));
        Checks.is("of 60", 60, x.clearText());
        Checks.sentence(3, "Empties the text buffer.");
        Checks.is("the first character is missing", 0, x.errorPosition());
        Checks.is("room for 60 again", 1, x.append('P'));
        Checks.is("what was there does not come back", 1, x.errorPosition());
    }

    private static void clearTextKeepsTheRest() {
        Checks.term("the state, which consists of everything but the text and the save slots");
        Checks.is("only the text goes", Checks.whole(withText("")),
            Checks.whole(cleared(Checks.rich(PICTURE))));
        CountedCells x = Checks.of(PICTURE);
        x.append('P');
        x.clearText();
        x.errorPosition();
        Checks.failsWith("writing is no action", Checks.STATE, () -> x.undo());
    }

    private static CountedCells cleared(CountedCells x) {
        x.clearText();
        return x;
    }

    // ---- errorPosition

    private static void position(String text, int due) {
        CountedCells x = new CountedCells();
        Checks.write(x, text);
        Checks.is("errorPosition of " + text, due, x.errorPosition());
    }

    private static void pictures() {
        Checks.sentence(4, "Returns the error position of the text; NONE if it is a picture.");
        position("P11.", NONE);
        position("P11%:60", NONE);
        position("P66" + "#".repeat(36), NONE);
        position(LONGEST, NONE);
        Checks.keeps("errorPosition", PICTURE, x -> x.errorPosition());
        CountedCells wrong = withText("P11.:6");
        wrong.errorPosition();
        Checks.is("of no picture changes nothing", Checks.whole(withText("P11.:6")),
            Checks.whole(wrong));
    }

    private static void head() {
        Checks.term("A picture is the letter P, a digit from 1 to 6 for the rows, one from 1 to 6 "
                + "for the columns");
        for (int c = 0; c < 256; c++) {
            position((char) c + "11.", c == 'P' ? NONE : 0);
            boolean isSize = c >= '1' && c <= '6';
            position("P" + (char) c, isSize ? 2 : 1);
            position("P1" + (char) c, isSize ? 3 : 2);
        }
        for (int rows = 1; rows <= 6; rows++) {
            for (int columns = 1; columns <= 6; columns++) {
                position("P" + rows + columns + "#".repeat(rows * columns), NONE);
                position("P" + rows + columns + "#".repeat(rows * columns - 1),
                    2 + rows * columns);
                position("P" + rows + columns + "#".repeat(rows * columns + 1),
                    3 + rows * columns);
            }
        }
    }

    private static void cells() {
        Checks.term("for each cell, in the order of cells, a . (empty), a # (filled), "
                + "a , (empty and pinned) or a % (filled and pinned)");
        for (int c = 0; c < 256; c++) {
            boolean isCell = ".#,%".indexOf(c) >= 0;
            position("P22" + (char) c + "...", isCell ? NONE : 3);
            position("P22..." + (char) c, isCell ? NONE : 6);
        }
        Checks.is("shown", "P22.#,%:1102", Checks.show(Checks.of("P22.#,%")));
    }

    private static void ends() {
        Checks.term("Then the text ends (the wanted counts are the counts)");
        Checks.is("empty", "P12..:000", Checks.show(Checks.of("P12..")));
        Checks.is("full", "P23######:33222", Checks.show(Checks.of("P23######")));
        Checks.is("pinned ones", "P23%.,,%#:12111", Checks.show(Checks.of("P23%.,,%#")));
        for (int c = 0; c < 256; c++) {
            position("P11." + (char) c, c == ':' ? 5 : 4);
        }
    }

    private static void wants() {
        Checks.term("or there are a : and a digit from 0 to 6 for each line, in their order: its "
                + "wanted count");
        for (int c = 0; c < 256; c++) {
            boolean isWanted = c >= '0' && c <= '6';
            position("P11.:" + (char) c + "0", isWanted ? NONE : 5);
            position("P11.:6" + (char) c, isWanted ? NONE : 6);
            position("P11.:60" + (char) c, 7);
        }
        Checks.is("the rows, then the columns", "P23......:65432",
            Checks.show(Checks.of("P23......:65432")));
        Checks.is("the largest", LONGEST, Checks.show(Checks.of(LONGEST)));
    }

    private static void blanks() {
        Checks.term("There are no blanks.");
        String[] texts = {" P11.:60", "P 11.:60", "P1 1.:60", "P11 .:60", "P11. :60", "P11.: 60",
            "P11.:6 0", "P11.:60 "};
        for (int i = 0; i < texts.length; i++) {
            position(texts[i], i);
        }
        position("P11. ", 4);
    }

    private static void firstError() {
        Checks.term("The text is read from left to right. The error position is the index of the "
                + "first character that these rules do not allow at its place");
        for (int i = 0; i < PICTURE.length(); i++) {
            for (char c : new char[] {' ', 'x', 0, 255}) {
                position(PICTURE.substring(0, i) + c + PICTURE.substring(i + 1), i);
                position(PICTURE.substring(0, i) + c, i);
                position(PICTURE.substring(0, i) + c + "xx", i);
            }
        }
        position(LONGEST + "0", 52);
        position(LONGEST + "0".repeat(8), 52);
        position("x".repeat(60), 0);
        position("P66" + "#".repeat(57), 39);
    }

    private static void tooSoon() {
        Checks.term("if the text ends too soon, it is the length of the text");
        for (String text : new String[] {PICTURE, LONGEST, "P16......:1000000"}) {
            int colon = text.indexOf(':');
            for (int i = 0; i < text.length(); i++) {
                position(text.substring(0, i), i == colon ? NONE : i);
            }
        }
    }

    // ---- load

    private static void loadReplaces() {
        Checks.sentence(5, "Replaces everything by the picture of the text.");
        CountedCells x = Checks.of("P66" + "%".repeat(36) + ":" + "6".repeat(12));
        Checks.write(x, "P11.");
        Checks.is("load", 0, x.load());
        Checks.is("shown", "P11.:00", Checks.show(x));
        x.resize(6, 6);
        Checks.is("nothing is left", "P66" + ".".repeat(36) + ":" + "0".repeat(12),
            Checks.show(x));
        Checks.write(x, LONGEST);
        x.load();
        Checks.is("the largest", LONGEST, Checks.show(x));
    }

    private static void loadForgets() {
        Checks.sentence(5, "Forgets all remembered states and empties both save slots.");
        CountedCells x = Checks.rich(PICTURE);
        x.load();
        Checks.failsWith("undo", Checks.STATE, () -> x.undo());
        Checks.failsWith("restore(0)", Checks.STATE, () -> x.restore(0));
        Checks.failsWith("restore(1)", Checks.STATE, () -> x.restore(1));
        Checks.term("load and restore are not actions.");
        x.pin(0, 0, true);
        Checks.is("only the pin is remembered", 0, x.undo());
        Checks.is("undone", "P12#,:345", Checks.show(x));
    }

    private static void loadKeepsText() {
        Checks.sentence(5, "Keeps the text.");
        CountedCells x = Checks.of(LONGEST);
        Checks.is("still a picture", NONE, x.errorPosition());
        x.fill(0, 0, true);
        Checks.is("loaded again", 18, x.load());
        Checks.is("as it was", LONGEST, Checks.show(x));
        Checks.is("as long as before", 52, x.clearText());
    }

    private static void loadReturns() {
        Checks.sentence(5, "Returns the number of filled cells.");
        String[] texts = {"P11.", "P11,", "P11#", "P11%", PICTURE, "P66" + "%#".repeat(18)};
        int[] due = {0, 0, 1, 1, 3, 36};
        for (int i = 0; i < texts.length; i++) {
            CountedCells x = new CountedCells();
            Checks.write(x, texts[i]);
            Checks.is("load of " + texts[i], due[i], x.load());
        }
    }

    private static void loadRefused() {
        Checks.sentence(5, "IllegalStateException if the text is not a picture");
        for (String text : new String[] {"", "P", "P1", "P11", "p11.", "P01.", "P17.......",
            "P11:", "P11..", "P11.:", "P11.:6", "P11.:67", "P11.:600", LONGEST + "0",
            "P66" + ".".repeat(35), "#".repeat(60)}) {
            Checks.refuses("load of " + text, Checks.STATE, () -> withText(text), x -> x.load());
        }
        Checks.refuses("load of a new object", Checks.STATE, CountedCells::new, x -> x.load());
    }

    public static void main(String[] args) {
        newObject();
        newObjectsLines();
        newObjectHoldsNothing();
        none();
        appendInRange();
        appendOutOfRange();
        appendToFull();
        appendRefusedTwice();
        clearText();
        clearTextKeepsTheRest();
        pictures();
        head();
        cells();
        ends();
        wants();
        blanks();
        firstError();
        tooSoon();
        loadReplaces();
        loadForgets();
        loadKeepsText();
        loadReturns();
        loadRefused();
        Checks.end();
    }
}
