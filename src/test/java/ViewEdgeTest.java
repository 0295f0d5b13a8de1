/** Promises 6 to 11 and the terms of the picture, sentence by sentence: edges, refused calls. */
public final class ViewEdgeTest {
    private static final int NONE = CountedCells.NONE;
    private static final String PICTURE = "P23#.,%#.:21435";
    private static final String ONE = "P11.";
    private static final String FULL = "P66" + "#".repeat(36);
    private static final String EMPTY = "P66" + ".".repeat(36);
    private static final String CHESS = "P66" + "#.#.#..#.#.#".repeat(3);
    private static final String PINNED = "P66" + "%".repeat(36) + ":" + "6".repeat(12);

    private static void about(String text, int... due) {
        CountedCells x = Checks.of(text);
        for (int what = 0; what < due.length; what++) {
            Checks.is("about(" + what + ") of " + text, due[what], x.about(what));
        }
    }

    private static void lineIs(String text, int l, int... due) {
        CountedCells x = Checks.of(text);
        for (int what = 0; what < due.length; what++) {
            Checks.is("line(" + l + "," + what + ") of " + text, due[what], x.line(l, what));
        }
    }

    /** A number of all cells, in their order. */
    private static void cells(String text, int what, int... due) {
        CountedCells x = Checks.of(text);
        int columns = x.about(1);
        for (int i = 0; i < due.length; i++) {
            int r = i / columns;
            int c = i % columns;
            Checks.is("cell(" + r + "," + c + "," + what + ") of " + text, due[i],
                x.cell(r, c, what));
        }
    }

    /** The numbers of all pieces, five for each. */
    private static void pieces(String text, int... due) {
        CountedCells x = Checks.of(text);
        Checks.is("pieces of " + text, due.length / 5, x.about(7));
        for (int i = 0; i < due.length; i++) {
            Checks.is("piece(" + i / 5 + "," + i % 5 + ") of " + text, due[i],
                x.piece(i / 5, i % 5));
        }
    }

    private static void exchanges(String text, int... due) {
        CountedCells x = Checks.of(text);
        Checks.is("exchanges of " + text, due.length, x.about(10));
        for (int i = 0; i < due.length; i++) {
            Checks.is("exchangeAt(" + i + ") of " + text, due[i], x.exchangeAt(i));
        }
        for (int i : new int[] {due.length, due.length + 1, Integer.MAX_VALUE}) {
            Checks.is("exchangeAt(" + i + ") of " + text, NONE, x.exchangeAt(i));
        }
    }

    private static void hull(String text, String due) {
        CountedCells x = Checks.of(text);
        StringBuilder shown = new StringBuilder();
        for (int i = 0; i < x.about(0) * x.about(1); i++) {
            shown.append(x.cell(i / x.about(1), i % x.about(1), 3) == 1 ? '#' : '.');
        }
        Checks.is("hull of " + text, due, shown.toString());
        Checks.is("its cells", due.chars().filter(c -> c == '#').count(), x.about(9));
    }

    private static void keepsAll() {
        Checks.term("Each call of one of them that does not throw an exception is an action");
        Checks.keeps("looking", PICTURE, x -> {
            for (int what = 0; what <= 10; what++) {
                x.about(what);
            }
            for (int what = 0; what <= 4; what++) {
                x.line(4, what);
                x.cell(1, 1, what);
                x.piece(0, what);
            }
            x.exchangeAt(0);
            x.whyNot(0);
        });
    }

    // ---- terms

    private static void sizes() {
        Checks.term("A picture has 1 to 6 rows and 1 to 6 columns, numbered from 0.");
        for (int rows = 1; rows <= 6; rows++) {
            for (int columns = 1; columns <= 6; columns++) {
                CountedCells x = Checks.of("P" + rows + columns + "#".repeat(rows * columns));
                int r = rows;
                int c = columns;
                Checks.is("the first cell", 1, x.cell(0, 0, 0));
                Checks.is("the last cell", 1, x.cell(r - 1, c - 1, 0));
                Checks.failsWith("the row behind", Checks.INDEX, () -> x.cell(r, c - 1, 0));
                Checks.failsWith("the column behind", Checks.INDEX, () -> x.cell(r - 1, c, 0));
                Checks.is("the last line", rows, x.line(r + c - 1, 0));
                Checks.failsWith("the line behind", Checks.INDEX, () -> x.line(r + c, 0));
            }
        }
    }

    private static void order() {
        Checks.term("The order of the cells is row by row, and in a row by columns.");
        cells("P23.##..#", 0, 0, 1, 1, 0, 0, 1);
        cells("P32.##..#", 0, 0, 1, 1, 0, 0, 1);
    }

    private static void lines() {
        Checks.term("the line l is the row l if there is such a row, otherwise the column "
                + "l - (the number of rows)");
        int[] wide = {3, 1, 1, 0, 0, 0, 1};
        int[] high = {1, 1, 0, 0, 0, 1, 3};
        for (int l = 0; l < 7; l++) {
            lineIs("P16##...#", l, wide[l]);
            lineIs("P61##...#", l, high[l]);
        }
        lineIs("P23##.#.#", 1, 2);
        lineIs("P23##.#.#", 2, 2);
        lineIs("P23##.#.#", 3, 1);
        lineIs("P11#:45", 0, 1, 4);
        lineIs("P11#:45", 1, 1, 5);
    }

    private static void beside() {
        Checks.term("Two filled cells are beside each other if they have a side in common.");
        pieces("P22#..#", 1, 4, 1, 1, 0, 1, 4, 1, 1, 11);
        pieces("P22.##.", 1, 4, 1, 1, 1, 1, 4, 1, 1, 10);
        pieces("P22##..", 2, 6, 1, 2, 0);
        pieces("P22#.#.", 2, 6, 2, 1, 0);
        // No side goes round the picture: the ends of rows and columns are apart.
        pieces("P66.....##....." + "......".repeat(4), 1, 4, 1, 1, 5, 1, 4, 1, 1, 10);
        pieces("P66#....#" + "......".repeat(5), 1, 4, 1, 1, 0, 1, 4, 1, 1, 5);
        pieces("P66#....." + "......".repeat(4) + "#.....", 1, 4, 1, 1, 0, 1, 4, 1, 1, 50);
        pieces("P66#....." + "......".repeat(4) + ".....#", 1, 4, 1, 1, 0, 1, 4, 1, 1, 55);
    }

    private static void pieceOrder() {
        Checks.term("Filled cells that hang together by cells beside each other are a piece; "
                + "pieces are numbered from 0 by their first cells.");
        // The piece of the first row's end comes round to cells in front of its second one.
        cells("P33..##.####", 2, NONE, NONE, 0, 0, NONE, 0, 0, 0, 0);
        cells("P33..##.##.#", 2, NONE, NONE, 0, 1, NONE, 0, 1, NONE, 0);
        cells("P33#.#.#.#.#", 2, 0, NONE, 1, NONE, 2, NONE, 3, NONE, 4);
        cells("P33.........", 2, NONE, NONE, NONE, NONE, NONE, NONE, NONE, NONE, NONE);
        // Rings whose two arms meet again at a cell that is as far for both.
        pieces("P43.#.####.####", 9, 18, 4, 3, 1);
        pieces("P45#....#.######.#..###", 12, 24, 4, 5, 0);
    }

    private static void outlines() {
        Checks.term("The outline of some cells is the number of their sides behind which there is "
                + "no filled cell.");
        about("P33.........", 3, 3, 0, 0, 0, 0, 0, 0, 0);
        about("P33####.####", 3, 3, 8, 0, 8, 8, 0, 1, 16);
        pieces("P33####.####", 8, 16, 3, 3, 0);
        // The inner piece has sides of its own; the ring's inner sides look at empty cells.
        pieces("P55" + "######...##.#.##...######", 16, 32, 5, 5, 0, 1, 4, 1, 1, 22);
        pieces("P11#", 1, 4, 1, 1, 0);
        pieces("P16######", 6, 14, 1, 6, 0);
        pieces("P61######", 6, 14, 6, 1, 0);
        pieces(FULL, 36, 24, 6, 6, 0);
    }

    private static void hulls() {
        Checks.term("The hull is the smallest set of cells that contains all filled ones and, with "
                + "any two cells of a line, all cells of this line between them.");
        hull("P33.........", ".........");
        hull("P11#", "#");
        hull("P11.", ".");
        hull("P22#..#", "#..#");
        hull("P33#.#......", "###......");
        hull("P33#.....#..", "#..#..#..");
        hull("P16.#...#", ".#####");
        hull("P61#....#", "######");
        hull(FULL, "#".repeat(36));
        hull("P66#....#" + "......".repeat(4) + "#....#", "#".repeat(36));
        // Pinned ones are filled ones; pinned empty ones are as good as others.
        hull("P33%,%......", "###......");
        // Column 1 lets row 2 be closed, this lets column 3, and this lets row 3.
        hull("P55" + ".#..." + "....." + "....#" + ".#..." + "...#.",
            ".#..." + ".#..." + ".####" + ".###." + "...#.");
        hull("P66.#...." + "......".repeat(3) + "#....." + ".....#",
            ".#...." + "......".repeat(3) + "#....." + ".....#");
    }

    private static void possible() {
        Checks.term("(r, c) and (s, d) are both filled or both empty, and (r, d) and (s, c) are "
                + "both the other of these");
        for (int i = 0; i < 16; i++) {
            StringBuilder text = new StringBuilder("P22");
            for (int k = 3; k >= 0; k--) {
                text.append((i >> k & 1) == 1 ? '#' : '.');
            }
            boolean isPossible = i == 0b1001 || i == 0b0110;
            exchanges(text.toString(), isPossible ? new int[] {101} : new int[] {});
        }
        exchanges("P33#.......#", 202);
        exchanges("P66.....#" + "......".repeat(4) + "#.....", 505);
    }

    private static void pinnedCorners() {
        Checks.term("It is possible if none of the cells (r, c), (r, d), (s, c) and (s, d) is "
                + "pinned");
        for (String text : new String[] {"P22%..#", "P22#,.#", "P22#.,#", "P22#..%", "P22,##.",
            "P22.%#.", "P22.#%.", "P22.##,", "P22%,,%"}) {
            exchanges(text);
        }
        // The pins beside the four cells do no harm.
        exchanges("P33#,.,%,.,#", 202);
    }

    private static void exchangeOrder() {
        Checks.term("Possible exchanges are numbered from 0 by r, then s, then c, then d.");
        exchanges("P33#.#.#.#.#", 101, 112, 1201, 1212);
        exchanges("P24#.#..#.#", 101, 103, 112, 123);
        exchanges("P42#..##..#", 101, 301, 1201, 2301);
        exchanges("P33#...#...#", 101, 202, 1212);
    }

    // ---- about

    private static void aboutEdges() {
        Checks.sentence(6, "0: the number of rows; 1: of columns; 2: of filled cells; "
                + "3: of pinned cells");
        about(ONE, 1, 1, 0, 0);
        about("P11%", 1, 1, 1, 1);
        about("P16,.,.,.", 1, 6, 0, 3);
        about("P61%#%#%#", 6, 1, 6, 3);
        about(EMPTY, 6, 6, 0, 0);
        about(FULL, 6, 6, 36, 0);
        about(PINNED, 6, 6, 36, 36);
        about("P66" + ",".repeat(36), 6, 6, 0, 36);
        Checks.sentence(6, "4: the wanted counts of all rows together; "
                + "5: those of all columns together");
        about(PINNED, 6, 6, 36, 36, 36, 36);
        about("P16......:6666666", 1, 6, 0, 0, 6, 36);
        about("P61......:6666666", 6, 1, 0, 0, 36, 6);
        about("P66" + "#".repeat(36) + ":" + "0".repeat(12), 6, 6, 36, 0, 0, 0);
    }

    private static void aboutLines() {
        Checks.sentence(6, "6: the number of lines whose count is not the wanted one");
        about(FULL, 6, 6, 36, 0, 36, 36, 0);
        about("P66" + "#".repeat(36) + ":" + "5".repeat(12), 6, 6, 36, 0, 30, 30, 12);
        about("P66" + ".".repeat(36) + ":000001100000", 6, 6, 0, 0, 1, 1, 2);
        about("P11.:01", 1, 1, 0, 0, 0, 1, 1);
    }

    private static void aboutPieces() {
        Checks.sentence(6, "7: of pieces; 8: the outline of all filled cells; 9: the number of "
                + "cells of the hull; 10: of possible exchanges");
        about(ONE, 1, 1, 0, 0, 0, 0, 0, 0, 0, 0, 0);
        about(EMPTY, 6, 6, 0, 0, 0, 0, 0, 0, 0, 0, 0);
        about(FULL, 6, 6, 36, 0, 36, 36, 0, 1, 24, 36, 0);
        // Each of the nine pairs of unlike rows has three columns of either kind.
        about(CHESS, 6, 6, 18, 0, 18, 18, 0, 18, 72, 34, 81);
        about("P16######", 1, 6, 6, 0, 6, 6, 0, 1, 14, 6, 0);
    }

    private static void aboutRefused() {
        Checks.sentence(6, "IllegalArgumentException if what is not 0 to 10");
        for (int what : Checks.outside(0, 10)) {
            Checks.refuses("about(" + what + ")", Checks.ARGUMENT, PICTURE, x -> x.about(what));
        }
    }

    // ---- line

    private static void lineCounts() {
        Checks.sentence(7, "0: its count; 1: its wanted count");
        lineIs(EMPTY, 0, 0, 0);
        lineIs(EMPTY, 11, 0, 0);
        lineIs(FULL, 5, 6, 6);
        lineIs(FULL, 6, 6, 6);
        lineIs("P11.:60", 0, 0, 6);
        lineIs("P11.:60", 1, 0, 0);
    }

    private static void lineRuns() {
        Checks.sentence(7, "2: the number of its runs (a run is a row of filled cells beside each "
                + "other in this line that is as long as possible)");
        String[] rows = {"......", "#.....", ".....#", "######", "#.#.#.", ".#.#.#", "##.###",
            "###.##", "#.####", ".####."};
        int[] runs = {0, 1, 1, 1, 3, 3, 2, 2, 2, 1};
        int[] longest = {0, 1, 1, 6, 1, 1, 3, 3, 4, 4};
        Checks.sentence(7, "3: the length of its longest run, 0 without one");
        for (int i = 0; i < rows.length; i++) {
            int count = (int) rows[i].chars().filter(c -> c == '#').count();
            lineIs("P16" + rows[i], 0, count, count, runs[i], longest[i], 0);
            lineIs("P61" + rows[i], 6, count, count, runs[i], longest[i], 0);
        }
        // A run ends where its line ends, also if the next line begins with a filled cell.
        lineIs("P66" + ".....#" + "#.....".repeat(5), 0, 1, 1, 1, 1, 0);
        lineIs("P66" + ".....#" + "#.....".repeat(5), 6, 5, 5, 1, 5, 0);
        lineIs("P66" + ".....#" + "#.....".repeat(5), 1, 1, 1, 1, 1, 0);
    }

    private static void linePins() {
        Checks.sentence(7, "4: its pinned cells");
        lineIs("P16,%,%,%", 0, 3, 3, 3, 1, 6);
        lineIs("P61,%,%,%", 6, 3, 3, 3, 1, 6);
        lineIs("P16,%,%,%", 1, 0, 0, 0, 0, 1);
        lineIs("P16.#.#.#", 0, 3, 3, 3, 1, 0);
        lineIs(PINNED, 11, 6, 6, 1, 6, 6);
    }

    private static void lineRefused() {
        Checks.sentence(7, "IndexOutOfBoundsException if there is no such line");
        for (int l : Checks.outside(0, 4)) {
            Checks.refuses("line(" + l + ",0)", Checks.INDEX, PICTURE, x -> x.line(l, 0));
            Checks.refuses("line(" + l + ",4)", Checks.INDEX, PICTURE, x -> x.line(l, 4));
        }
        for (int l : Checks.outside(0, 1)) {
            Checks.refuses("line(" + l + ",0)", Checks.INDEX, ONE, x -> x.line(l, 0));
        }
        Checks.sentence(7, "IllegalArgumentException if what is not 0 to 4");
        for (int what : Checks.outside(0, 4)) {
            Checks.refuses("line(0," + what + ")", Checks.ARGUMENT, PICTURE, x -> x.line(0, what));
            Checks.refuses("line(4," + what + ")", Checks.ARGUMENT, PICTURE, x -> x.line(4, what));
            Checks.refuses("line(5," + what + ")", Checks.INDEX, PICTURE, x -> x.line(5, what));
            Checks.refuses("line(-1," + what + ")", Checks.INDEX, PICTURE,
                x -> x.line(-1, what));
        }
    }

    // ---- cell

    private static void cellEdges() {
        Checks.sentence(8, "0: 1 if it is filled, otherwise 0; 1: 1 if it is pinned, otherwise 0");
        cells("P22.#,%", 0, 0, 1, 0, 1);
        cells("P22.#,%", 1, 0, 0, 1, 1);
        Checks.sentence(8, "2: its piece, NONE if it is empty");
        cells("P22.#,%", 2, NONE, 0, NONE, 0);
        cells("P22%,.#", 2, 0, NONE, NONE, 1);
        Checks.is("the last one", 17, Checks.of(CHESS).cell(5, 5, 2));
        Checks.sentence(8, "3: 1 if it is in the hull, otherwise 0");
        cells("P14#,.#", 3, 1, 1, 1, 1);
        cells("P14.#.,", 3, 0, 1, 0, 0);
    }

    private static void cellSure() {
        Checks.term("A cell is sure if there are fitting pictures and it is the same in all of "
                + "them.");
        Checks.sentence(8, "4: 1 if it is sure, otherwise 0");
        // None fits: not even pinned cells are sure. One fits: all are.
        cells("P22%,..:2011", 4, 0, 0, 0, 0);
        cells("P22....:2120", 4, 0, 0, 0, 0);
        cells("P22....:2011", 4, 1, 1, 1, 1);
        cells("P22####:0000", 4, 1, 1, 1, 1);
        cells("P22....:1111", 4, 0, 0, 0, 0);
        cells("P33%........:111111", 4, 1, 1, 1, 1, 0, 0, 1, 0, 0);
        // Far more than 100 pictures fit, and the first row and column are sure in all of them.
        CountedCells x = Checks.of("P66" + ".".repeat(36) + ":632223633222");
        Checks.is("many fit", 100, x.howMany());
        for (int i = 0; i < 6; i++) {
            Checks.is("the first row", 1, x.cell(0, i, 4));
            Checks.is("the first column", 1, x.cell(i, 0, 4));
            Checks.is("a cell behind them", 0, x.cell(1 + i % 5, 5, 4));
        }
    }

    private static void cellRefused() {
        Checks.sentence(8, "IndexOutOfBoundsException if there is no such row or column");
        for (int what = 0; what <= 4; what++) {
            int w = what;
            for (int r : Checks.outside(0, 1)) {
                Checks.refuses("cell(" + r + ",0," + w + ")", Checks.INDEX, PICTURE,
                    x -> x.cell(r, 0, w));
            }
            for (int c : Checks.outside(0, 2)) {
                Checks.refuses("cell(0," + c + "," + w + ")", Checks.INDEX, PICTURE,
                    x -> x.cell(0, c, w));
            }
        }
        Checks.sentence(8, "IllegalArgumentException if what is not 0 to 4");
        for (int what : Checks.outside(0, 4)) {
            Checks.refuses("cell(0,0," + what + ")", Checks.ARGUMENT, PICTURE,
                x -> x.cell(0, 0, what));
            Checks.refuses("cell(1,2," + what + ")", Checks.ARGUMENT, PICTURE,
                x -> x.cell(1, 2, what));
            Checks.refuses("cell(2,0," + what + ")", Checks.INDEX, PICTURE,
                x -> x.cell(2, 0, what));
            Checks.refuses("cell(0,-1," + what + ")", Checks.INDEX, PICTURE,
                x -> x.cell(0, -1, what));
        }
    }

    // ---- piece

    private static void pieceEdges() {
        Checks.sentence(9, "0: the number of its cells; 1: its outline; 2: the number of rows in "
                + "which it has cells; 3: the number of columns in which it has cells; "
                + "4: 10 * (the row) + (the column) of its first cell");
        pieces("P11#", 1, 4, 1, 1, 0);
        pieces("P66" + ".".repeat(35) + "#", 1, 4, 1, 1, 55);
        pieces("P16.####.", 4, 10, 1, 4, 1);
        pieces("P61.####.", 4, 10, 4, 1, 10);
        pieces("P33..#..####", 5, 12, 3, 3, 2);
        CountedCells chess = Checks.of(CHESS);
        Checks.is("the last of 18", 55, chess.piece(17, 4));
        Checks.failsWith("piece 18 of 18", Checks.INDEX, () -> chess.piece(18, 0));
    }

    private static void pieceRefused() {
        Checks.sentence(9, "IndexOutOfBoundsException if there is no such piece");
        String two = "P23#.#,%.:21435";
        for (int p : Checks.outside(0, 2)) {
            Checks.refuses("piece(" + p + ",0)", Checks.INDEX, two, x -> x.piece(p, 0));
            Checks.refuses("piece(" + p + ",4)", Checks.INDEX, two, x -> x.piece(p, 4));
        }
        Checks.refuses("piece(0,0)", Checks.INDEX, "P22....", x -> x.piece(0, 0));
        Checks.refuses("piece(0,5)", Checks.INDEX, "P22....", x -> x.piece(0, 5));
        Checks.refuses("piece(1,0)", Checks.INDEX, "P22####", x -> x.piece(1, 0));
        Checks.sentence(9, "IllegalArgumentException if what is not 0 to 4");
        for (int what : Checks.outside(0, 4)) {
            Checks.refuses("piece(0," + what + ")", Checks.ARGUMENT, two, x -> x.piece(0, what));
            Checks.refuses("piece(2," + what + ")", Checks.ARGUMENT, two, x -> x.piece(2, what));
            Checks.refuses("piece(3," + what + ")", Checks.INDEX, two, x -> x.piece(3, what));
            Checks.refuses("piece(-1," + what + ")", Checks.INDEX, two, x -> x.piece(-1, what));
        }
    }

    // ---- exchangeAt

    private static void exchangeAtEdges() {
        Checks.sentence(10, "Returns 1000 * r + 100 * s + 10 * c + d; NONE if there are not so "
                + "many.");
        exchanges(ONE);
        exchanges("P16#.#.#.");
        exchanges(EMPTY);
        exchanges(FULL);
        exchanges(PINNED);
        exchanges("P22#..#", 101);
        CountedCells chess = Checks.of(CHESS);
        Checks.is("the first of 81", 101, chess.exchangeAt(0));
        Checks.is("the last of 81", 4545, chess.exchangeAt(80));
        Checks.is("behind the last of 81", NONE, chess.exchangeAt(81));
        Checks.sentence(10, "i: its number, 0 or more");
        Checks.sentence(10, "IllegalArgumentException if i is negative");
        for (int i : new int[] {-1, NONE, Integer.MIN_VALUE}) {
            Checks.refuses("exchangeAt(" + i + ")", Checks.ARGUMENT, "P22#..#",
                x -> x.exchangeAt(i));
        }
    }

    // ---- whyNot

    private static void whyNot(String text, int l, int due) {
        Checks.is("whyNot(" + l + ") of " + text, due, Checks.of(text).whyNot(l));
    }

    private static void whyNotEdges() {
        Checks.sentence(11, "Returns 0 if its count is the wanted one");
        whyNot("P11.:00", 0, 0);
        whyNot("P16######", 0, 0);
        whyNot("P13%,#", 0, 0);
        Checks.sentence(11, "1: more cells are wanted than the line has cells that are not pinned "
                + "as empty ones");
        whyNot("P13..,:3000", 0, 1);
        whyNot("P13..,:2000", 0, 3);
        whyNot("P13%#,:3000", 0, 1);
        whyNot("P13%#.:3000", 0, 3);
        whyNot("P13,,,:1000", 0, 1);
        whyNot("P13...:4000", 0, 1);
        whyNot("P13...:3000", 0, 3);
        whyNot("P13###:6000", 0, 1);
        whyNot("P31..,:0003", 3, 1);
        whyNot("P31..,:0002", 3, 3);
        Checks.sentence(11, "2: fewer cells are wanted than the line has cells that are pinned as "
                + "filled ones");
        whyNot("P13%%.:1000", 0, 2);
        whyNot("P13%%#:2000", 0, 3);
        whyNot("P13%..:0000", 0, 2);
        whyNot("P13#,.:0000", 0, 3);
        whyNot("P16%%%%%%:5000000", 0, 2);
        whyNot("P31%%.:0001", 3, 2);
        whyNot("P31%%#:0002", 3, 3);
        Checks.sentence(11, "3: neither.");
        whyNot("P13%,.:2000", 0, 3);
        whyNot("P13%,#:1000", 0, 3);
        whyNot("P16######:0000000", 0, 3);
        whyNot("P16......:6000000", 0, 3);
        Checks.sentence(11, "Tells why a line cannot be as it should, whatever the other lines "
                + "are.");
        whyNot("P22....:2000", 0, 3);
        whyNot("P22....:0200", 0, 0);
    }

    private static void whyNotRefused() {
        Checks.sentence(11, "IndexOutOfBoundsException if there is no such line");
        for (int l : Checks.outside(0, 4)) {
            Checks.refuses("whyNot(" + l + ")", Checks.INDEX, PICTURE, x -> x.whyNot(l));
        }
        for (int l : Checks.outside(0, 1)) {
            Checks.refuses("whyNot(" + l + ")", Checks.INDEX, ONE, x -> x.whyNot(l));
        }
    }

    public static void main(String[] args) {
        keepsAll();
        sizes();
        order();
        lines();
        beside();
        pieceOrder();
        outlines();
        hulls();
        possible();
        pinnedCorners();
        exchangeOrder();
        aboutEdges();
        aboutLines();
        aboutPieces();
        aboutRefused();
        lineCounts();
        lineRuns();
        linePins();
        lineRefused();
        cellEdges();
        cellSure();
        cellRefused();
        pieceEdges();
        pieceRefused();
        exchangeAtEdges();
        whyNotEdges();
        whyNotRefused();
        Checks.end();
    }
}
