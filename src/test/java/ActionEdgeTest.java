/** Promises 12 to 17, sentence by sentence: edges and refused calls of the plain actions. */
public final class ActionEdgeTest {
    private static final String PICTURE = "P23#.,%#.:21435";
    private static final String PINNED = "P66" + "%".repeat(36) + ":" + "6".repeat(12);
    private static final String EMPTY = "P66" + ".".repeat(36) + ":" + "0".repeat(12);

    private static void shows(String what, String due, CountedCells x) {
        Checks.is(what, due, Checks.show(x));
    }

    // ---- resize

    private static void resizeRange() {
        Checks.sentence(12, "rows: 1 to 6");
        Checks.sentence(12, "columns: 1 to 6");
        for (int rows = 1; rows <= 6; rows++) {
            for (int columns = 1; columns <= 6; columns++) {
                CountedCells x = new CountedCells();
                Checks.is("resize", 0, x.resize(rows, columns));
                shows("resized", "P" + rows + columns + ".".repeat(rows * columns) + ":"
                        + "0".repeat(rows + columns), x);
            }
        }
    }

    private static void resizeRefused() {
        Checks.sentence(12, "IllegalArgumentException if rows or columns is out of range");
        for (int n : Checks.outside(1, 6)) {
            Checks.refuses("resize(" + n + ",3)", Checks.ARGUMENT, PICTURE, x -> x.resize(n, 3));
            Checks.refuses("resize(2," + n + ")", Checks.ARGUMENT, PICTURE, x -> x.resize(2, n));
            Checks.refuses("resize(" + n + "," + n + ")", Checks.ARGUMENT, PICTURE,
                x -> x.resize(n, n));
        }
    }

    private static void resizeKeeps() {
        Checks.sentence(12, "Cells and lines that are there before and then stay as they are");
        CountedCells x = Checks.of("P23#%.,.#:21435");
        x.resize(6, 6);
        shows("grown", "P66#%....,.#..." + "......".repeat(4) + ":210000435000", x);
        x.resize(2, 3);
        shows("cut to where it was", "P23#%.,.#:21435", x);
        x.resize(2, 3);
        shows("of the same size", "P23#%.,.#:21435", x);
        x.resize(1, 6);
        shows("lower and wider", "P16#%....:2435000", x);
        x.resize(6, 1);
        shows("higher and narrower", "P61#.....:2000004", x);
        x.resize(1, 1);
        shows("the smallest", "P11#:24", x);
    }

    private static void resizeBegins() {
        Checks.sentence(12, "new cells are empty and not pinned, new lines have the wanted count "
                + "0");
        CountedCells x = Checks.of(PINNED);
        x.resize(1, 1);
        x.resize(6, 6);
        shows("what was cut does not come back", "P66%" + ".".repeat(35) + ":600000600000", x);
        x = Checks.of(PINNED);
        x.resize(5, 6);
        x.resize(6, 6);
        shows("the last row", "P66" + "%".repeat(30) + "......:666660666666", x);
        x = Checks.of(PINNED);
        x.resize(6, 5);
        x.resize(6, 6);
        shows("the last column", "P66" + "%%%%%.".repeat(6) + ":666666666660", x);
    }

    private static void resizeReturns() {
        Checks.sentence(12, "Returns the number of filled cells then.");
        CountedCells x = Checks.of(PINNED);
        Checks.is("of the same size", 36, x.resize(6, 6));
        Checks.is("a row less", 30, x.resize(5, 6));
        Checks.is("a column less", 25, x.resize(5, 5));
        Checks.is("one cell", 1, x.resize(1, 1));
        Checks.is("grown", 1, x.resize(6, 6));
        Checks.is("empty", 0, Checks.of("P22...#").resize(1, 1));
    }

    // ---- fill

    private static void fillReturns() {
        Checks.sentence(13, "Returns whether it was filled.");
        for (String text : new String[] {"P11.", "P11#"}) {
            boolean was = text.endsWith("#");
            Checks.is("fill true of " + text, was, Checks.of(text).fill(0, 0, true));
            Checks.is("fill false of " + text, was, Checks.of(text).fill(0, 0, false));
        }
        Checks.sentence(13, "Changes whether a cell is filled.");
        CountedCells x = Checks.of(EMPTY);
        for (int[] p : new int[][] {{0, 0}, {0, 5}, {5, 0}, {5, 5}}) {
            x.fill(p[0], p[1], true);
        }
        shows("the four corners", "P66#....#" + "......".repeat(4) + "#....#:" + "0".repeat(12),
            x);
        for (int[] p : new int[][] {{0, 0}, {0, 5}, {5, 0}, {5, 5}}) {
            x.fill(p[0], p[1], false);
        }
        shows("empty again", EMPTY, x);
    }

    private static void fillRefused() {
        Checks.sentence(13, "IndexOutOfBoundsException if there is no such row or column");
        for (boolean is : new boolean[] {true, false}) {
            for (int r : Checks.outside(0, 1)) {
                Checks.refuses("fill(" + r + ",0)", Checks.INDEX, PICTURE, x -> x.fill(r, 0, is));
                Checks.refuses("fill(" + r + ",2)", Checks.INDEX, PICTURE, x -> x.fill(r, 2, is));
            }
            for (int c : Checks.outside(0, 2)) {
                Checks.refuses("fill(0," + c + ")", Checks.INDEX, PICTURE, x -> x.fill(0, c, is));
                Checks.refuses("fill(1," + c + ")", Checks.INDEX, PICTURE, x -> x.fill(1, c, is));
            }
        }
        Checks.sentence(13, "IllegalStateException if it is pinned");
        for (boolean is : new boolean[] {true, false}) {
            Checks.refuses("fill(0,2," + is + ")", Checks.STATE, PICTURE, x -> x.fill(0, 2, is));
            Checks.refuses("fill(1,0," + is + ")", Checks.STATE, PICTURE, x -> x.fill(1, 0, is));
        }
    }

    // ---- pin

    private static void pinReturns() {
        Checks.sentence(14, "Returns whether it was pinned.");
        for (String text : new String[] {"P11.", "P11#", "P11,", "P11%"}) {
            boolean was = text.endsWith(",") || text.endsWith("%");
            Checks.is("pin true of " + text, was, Checks.of(text).pin(0, 0, true));
            Checks.is("pin false of " + text, was, Checks.of(text).pin(0, 0, false));
        }
        Checks.sentence(14, "Changes whether a cell is pinned.");
        CountedCells x = Checks.of("P22.#,%:3210");
        for (int i = 0; i < 4; i++) {
            x.pin(i / 2, i % 2, i < 2);
        }
        shows("the filled ones stay filled", "P22,%.#:3210", x);
        CountedCells y = Checks.of(EMPTY);
        y.pin(5, 5, true);
        shows("the last cell", "P66" + ".".repeat(35) + ",:" + "0".repeat(12), y);
    }

    private static void pinRefused() {
        Checks.sentence(14, "IndexOutOfBoundsException if there is no such row or column");
        for (boolean is : new boolean[] {true, false}) {
            for (int r : Checks.outside(0, 1)) {
                Checks.refuses("pin(" + r + ",0)", Checks.INDEX, PICTURE, x -> x.pin(r, 0, is));
                Checks.refuses("pin(" + r + ",2)", Checks.INDEX, PICTURE, x -> x.pin(r, 2, is));
            }
            for (int c : Checks.outside(0, 2)) {
                Checks.refuses("pin(0," + c + ")", Checks.INDEX, PICTURE, x -> x.pin(0, c, is));
                Checks.refuses("pin(1," + c + ")", Checks.INDEX, PICTURE, x -> x.pin(1, c, is));
            }
        }
    }

    // ---- want

    private static void wantRange() {
        Checks.term("For each line a count from 0 to 6 is wanted.");
        Checks.sentence(15, "n: 0 to 6");
        Checks.sentence(15, "Returns the previous wanted count.");
        for (String text : new String[] {"P11.", "P23......", EMPTY}) {
            CountedCells x = Checks.of(text);
            int lines = x.about(0) + x.about(1);
            for (int l = 0; l < lines; l++) {
                for (int n = 0; n <= 6; n++) {
                    Checks.is("want(" + l + "," + n + ")", Math.max(0, n - 1), x.want(l, n));
                    Checks.is("line(" + l + ",1)", n, x.line(l, 1));
                }
            }
            Checks.is("wanted of the last line", 6, x.want(lines - 1, 0));
        }
    }

    private static void wantOneLine() {
        Checks.sentence(15, "Changes a wanted count.");
        for (int l = 0; l < 5; l++) {
            CountedCells x = Checks.of(PICTURE);
            x.want(l, 6);
            int at = PICTURE.indexOf(':') + 1 + l;
            shows("want(" + l + ",6)", PICTURE.substring(0, at) + "6" + PICTURE.substring(at + 1),
                x);
        }
    }

    private static void wantRefused() {
        Checks.sentence(15, "IndexOutOfBoundsException if there is no such line");
        for (int l : Checks.outside(0, 4)) {
            for (int n : new int[] {0, 6, -1, 7}) {
                Checks.refuses("want(" + l + "," + n + ")", Checks.INDEX, PICTURE,
                    x -> x.want(l, n));
            }
        }
        Checks.sentence(15, "IllegalArgumentException if n is out of range");
        for (int n : Checks.outside(0, 6)) {
            for (int l = 0; l < 5; l++) {
                int line = l;
                Checks.refuses("want(" + l + "," + n + ")", Checks.ARGUMENT, PICTURE,
                    x -> x.want(line, n));
            }
        }
    }

    // ---- wantAll

    private static void wantAll() {
        Checks.sentence(16, "Returns the number of lines whose wanted count becomes different.");
        CountedCells x = Checks.of("P66" + "#".repeat(36) + ":" + "0".repeat(12));
        Checks.is("all lines", 12, x.wantAll());
        Checks.is("no line", 0, x.wantAll());
        Checks.is("one line", 1, Checks.of("P23#.#.#.:21110").wantAll());
        Checks.is("the last line", 1, Checks.of("P23#.#.#.:21112").wantAll());
        Checks.is("an empty picture", 2, Checks.of("P11.:61").wantAll());
        Checks.sentence(16, "Makes all counts the wanted ones.");
        shows("all lines", "P66" + "#".repeat(36) + ":" + "6".repeat(12), x);
        CountedCells y = Checks.of("P23%.#,#.:60606");
        Checks.is("all five lines", 5, y.wantAll());
        shows("pins stay", "P23%.#,#.:21111", y);
    }

    // ---- exchange

    private static void exchangeTurns() {
        Checks.sentence(17, "Returns the number of pieces then.");
        Checks.term("It turns all four: filled ones are empty then, empty ones filled.");
        CountedCells two = Checks.of("P22#..#:6543");
        Checks.is("exchange", 2, two.exchange(0, 1, 0, 1));
        shows("all four are turned", "P22.##.:6543", two);
        Checks.is("and back", 2, two.exchange(0, 1, 0, 1));
        shows("all four are turned back", "P22#..#:6543", two);
        CountedCells wide = Checks.of("P66" + ".....#" + "......".repeat(4) + "#.....");
        Checks.is("of the corners", 2, wide.exchange(0, 5, 0, 5));
        shows("the corners", "P66#....." + "......".repeat(4) + ".....#:100001100001", wide);
        CountedCells joins = Checks.of("P33##.##...#");
        Checks.is("joins two pieces", 1, joins.exchange(0, 2, 0, 2));
        shows("joined", "P33.####.#..:221221", joins);
        Checks.is("parts them", 2, joins.exchange(0, 2, 0, 2));
    }

    private static void exchangeMissing() {
        Checks.sentence(17, "IndexOutOfBoundsException if one of these rows or columns does not "
                + "exist");
        for (int n : Checks.outside(0, 1)) {
            Checks.refuses("exchange(" + n + ",1,0,1)", Checks.INDEX, PICTURE,
                x -> x.exchange(n, 1, 0, 1));
            Checks.refuses("exchange(0," + n + ",0,1)", Checks.INDEX, PICTURE,
                x -> x.exchange(0, n, 0, 1));
        }
        for (int n : Checks.outside(0, 2)) {
            Checks.refuses("exchange(0,1," + n + ",1)", Checks.INDEX, PICTURE,
                x -> x.exchange(0, 1, n, 1));
            Checks.refuses("exchange(0,1,0," + n + ")", Checks.INDEX, PICTURE,
                x -> x.exchange(0, 1, 0, n));
            // The others are in a wrong order too.
            Checks.refuses("exchange(1,0,1," + n + ")", Checks.INDEX, PICTURE,
                x -> x.exchange(1, 0, 1, n));
            Checks.refuses("exchange(" + n + "," + n + ",0,0)", Checks.INDEX, PICTURE,
                x -> x.exchange(n, n, 0, 0));
            Checks.refuses("exchange(0,0," + n + "," + n + ")", Checks.INDEX, PICTURE,
                x -> x.exchange(0, 0, n, n));
        }
    }

    private static void exchangeDisorder() {
        Checks.sentence(17, "IllegalArgumentException if s is not greater than r, or d is not "
                + "greater than c");
        int[][] wrong = {{0, 0, 0, 1}, {1, 0, 0, 1}, {0, 1, 1, 1}, {0, 1, 1, 0}, {1, 0, 1, 0},
            {0, 0, 0, 0}, {1, 1, 1, 1}};
        for (String text : new String[] {"P22#..#", "P22####", "P22,..,", "P33#...#...#"}) {
            for (int[] e : wrong) {
                Checks.refuses("exchange " + java.util.Arrays.toString(e), Checks.ARGUMENT, text,
                    x -> x.exchange(e[0], e[1], e[2], e[3]));
            }
        }
        Checks.refuses("exchange(2,2,2,2)", Checks.ARGUMENT, "P33#...#...#",
            x -> x.exchange(2, 2, 2, 2));
    }

    private static void exchangeImpossible() {
        Checks.sentence(17, "IllegalStateException if the exchange is not possible");
        for (int i = 0; i < 16; i++) {
            StringBuilder text = new StringBuilder("P22");
            for (int k = 3; k >= 0; k--) {
                text.append((i >> k & 1) == 1 ? '#' : '.');
            }
            if (i != 0b1001 && i != 0b0110) {
                Checks.refuses("exchange", Checks.STATE, text.toString(),
                    x -> x.exchange(0, 1, 0, 1));
            }
        }
        for (String text : new String[] {"P22%..#", "P22#,.#", "P22#.,#", "P22#..%", "P22,##.",
            "P22.%#.", "P22.#%.", "P22.##,", "P22%,,%"}) {
            Checks.refuses("exchange", Checks.STATE, text, x -> x.exchange(0, 1, 0, 1));
        }
        Checks.refuses("exchange(0,2,0,2)", Checks.STATE, "P33#...#....",
            x -> x.exchange(0, 2, 0, 2));
    }

    public static void main(String[] args) {
        resizeRange();
        resizeRefused();
        resizeKeeps();
        resizeBegins();
        resizeReturns();
        fillReturns();
        fillRefused();
        pinReturns();
        pinRefused();
        wantRange();
        wantOneLine();
        wantRefused();
        wantAll();
        exchangeTurns();
        exchangeMissing();
        exchangeDisorder();
        exchangeImpossible();
        Checks.end();
    }
}
