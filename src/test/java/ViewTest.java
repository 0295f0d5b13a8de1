/** Promises 6 to 11: what there is. */
public final class ViewTest {
    private static void about() {
        //  # . # #
        //  # . . %
        //  , # . .
        CountedCells x = Checks.of("P34#.###..%,#..:3211203");
        int[] due = {3, 4, 6, 2, 6, 6, 4, 3, 18, 9, 2};
        for (int what = 0; what < due.length; what++) {
            Checks.is("about(" + what + ")", due[what], x.about(what));
        }
        CountedCells empty = new CountedCells();
        for (int what = 2; what <= 10; what++) {
            Checks.is("empty: about(" + what + ")", 0, empty.about(what));
        }
        CountedCells full = Checks.of("P66" + "#".repeat(36));
        int[] whole = {6, 6, 36, 0, 36, 36, 0, 1, 24, 36, 0};
        for (int what = 0; what < whole.length; what++) {
            Checks.is("full: about(" + what + ")", whole[what], full.about(what));
        }
        CountedCells chess = Checks.of("P66" + "#.#.#..#.#.#".repeat(3));
        Checks.is("chess: pieces", 18, chess.about(7));
        Checks.is("chess: outline", 72, chess.about(8));
        // Each of the nine pairs of unlike rows has three columns of either kind.
        Checks.is("chess: exchanges", 81, chess.about(10));
    }

    private static void hull(String text, int due) {
        Checks.is("hull of " + text, due, Checks.of(text).about(9));
    }

    private static void hulls() {
        hull("P33#...#...#", 3);
        hull("P33#.#......", 3);
        hull("P33#.....#..", 3);
        hull("P33#.#...#..", 5);
        hull("P33###......", 3);
        hull("P33#.#...#.#", 8 + 1);
        // Rows first close a column, which then closes a row, and so on inwards.
        hull("P44" + "#..#" + "#..." + "...." + "....", 5);
        // The second column closes the third row, this the fourth column, this the fourth row.
        hull("P55" + ".#..." + "....." + "....#" + ".#..." + "...#.", 10);
        hull("P66" + ".#...." + "......" + "......" + "......" + "#....." + ".....#", 3);
        hull("P16#....#", 6);
        hull("P61#....#", 6);
    }

    private static void line() {
        CountedCells x = Checks.of("P36##.#.#" + "%.,.%%" + "......" + ":654321012");
        int[][] due = {{4, 6, 3, 2, 0}, {3, 5, 2, 2, 4}, {0, 4, 0, 0, 0},
            {2, 3, 1, 2, 1}, {1, 2, 1, 1, 0}, {0, 1, 0, 0, 1},
            {1, 0, 1, 1, 0}, {1, 1, 1, 1, 1}, {2, 2, 1, 2, 1}};
        for (int l = 0; l < due.length; l++) {
            for (int what = 0; what < 5; what++) {
                Checks.is("line(" + l + "," + what + ")", due[l][what], x.line(l, what));
            }
        }
        CountedCells full = Checks.of("P16######");
        Checks.is("line: a longest run", 6, full.line(0, 3));
        Checks.is("line: its runs", 1, full.line(0, 2));
        CountedCells column = Checks.of("P61#.##.#");
        Checks.is("line: runs of a column", 3, column.line(6, 2));
        Checks.is("line: longest run of a column", 2, column.line(6, 3));
    }

    private static void cell() {
        // The second column stays empty, the last one has only two cells left: all is sure.
        CountedCells x = Checks.of("P33..#%.##.,");
        int[][] due = {{0, 0, -9, 0, 1}, {0, 0, -9, 0, 1}, {1, 0, 0, 1, 1},
            {1, 1, 1, 1, 1}, {0, 0, -9, 1, 1}, {1, 0, 0, 1, 1},
            {1, 0, 1, 1, 1}, {0, 0, -9, 0, 1}, {0, 1, -9, 0, 1}};
        for (int i = 0; i < 9; i++) {
            for (int what = 0; what < 5; what++) {
                Checks.is("cell(" + i / 3 + "," + i % 3 + "," + what + ")",
                        due[i][what], x.cell(i / 3, i % 3, what));
            }
        }
        CountedCells loose = Checks.of("P23#.##..:21201");
        int[] sure = {1, 1, 1, 1, 1, 1};
        for (int i = 0; i < 6; i++) {
            Checks.is("sure: cell " + i, sure[i], loose.cell(i / 3, i % 3, 4));
        }
        loose = Checks.of("P23#.##..:21111");
        for (int i = 0; i < 6; i++) {
            Checks.is("loose: cell " + i, 0, loose.cell(i / 3, i % 3, 4));
        }
        loose.pin(0, 1, true);
        for (int i = 0; i < 6; i++) {
            Checks.is("pinned: cell " + i, 1, loose.cell(i / 3, i % 3, 4));
        }
        CountedCells none = Checks.of("P11%:00");
        Checks.is("cell: nothing is sure where nothing fits", 0, none.cell(0, 0, 4));
    }

    private static void piece() {
        //  . # # .
        //  # . # .
        //  # # # #
        //  . . . .
        //  . . # .
        CountedCells x = Checks.of("P54.##.#.#.####......#.");
        int[][] due = {{8, 18, 3, 4, 1}, {1, 4, 1, 1, 42}};
        for (int p = 0; p < 2; p++) {
            for (int what = 0; what < 5; what++) {
                Checks.is("piece(" + p + "," + what + ")", due[p][what], x.piece(p, what));
            }
        }
        Checks.failsWith("piece of none", Checks.INDEX, () -> new CountedCells().piece(0, 0));
        CountedCells corners = Checks.of("P66#....#" + "......".repeat(4) + "#....#");
        Checks.is("piece: the last corner", 55, corners.piece(3, 4));
        Checks.is("piece: the row's end is not beside the next row", 5, corners.piece(1, 4));
        Checks.is("piece number of the end of a row", 1, Checks.of("P22.##.").cell(1, 0, 2));
    }

    private static void exchangeAt() {
        // # . # / . # . / # . #
        CountedCells x = Checks.of("P33#.#.#.#.#");
        int[] due = {101, 112, 1201, 1212, CountedCells.NONE};
        for (int i = 0; i < due.length; i++) {
            Checks.is("exchangeAt(" + i + ")", due[i], x.exchangeAt(i));
        }
        Checks.is("exchangeAt far behind", CountedCells.NONE, x.exchangeAt(Integer.MAX_VALUE));
        x.pin(1, 1, true);
        Checks.is("exchangeAt: all need the pinned cell", CountedCells.NONE, x.exchangeAt(0));
        x.pin(1, 1, false);
        x.pin(0, 0, true);
        Checks.is("exchangeAt: a pinned corner", 112, x.exchangeAt(0));
        Checks.is("exchangeAt(0) of none", CountedCells.NONE, new CountedCells().exchangeAt(0));
    }

    private static void whyNot() {
        CountedCells x = Checks.of("P34#.,," + "%%.." + "#..." + ":3132103");
        int[] due = {1, 2, 3, 3, 0, 0, 1};
        for (int l = 0; l < due.length; l++) {
            Checks.is("whyNot(" + l + ")", due[l], x.whyNot(l));
        }
        CountedCells small = Checks.of("P12..:300");
        Checks.is("whyNot: more than the line has", 1, small.whyNot(0));
        Checks.is("whyNot: just as many as the line has", 3, Checks.of("P12..:200").whyNot(0));
        Checks.is("whyNot: just as many as are pinned", 3, Checks.of("P12%#:100").whyNot(0));
        Checks.is("whyNot: a column", 2, Checks.of("P21%%:001").whyNot(2));
    }

    public static void main(String[] args) {
        about();
        hulls();
        line();
        cell();
        piece();
        exchangeAt();
        whyNot();
        Checks.end();
    }
}
