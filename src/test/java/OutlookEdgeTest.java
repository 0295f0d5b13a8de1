/** Promises 22 to 26, sentence by sentence: edges and refused calls of what would be. */
public final class OutlookEdgeTest {
    private static final int NONE = CountedCells.NONE;
    private static final String FIT_98 = "P55............%.......,....:3423314433";
    private static final String FIT_99 = "P55.........................:3211312421";
    private static final String FIT_100 = "P55....,...........,........:1432331342";
    private static final String FIT_101 = "P55...,.................,...:1223213231";
    private static final String FIT_2040 = "P55.........................:2222222222";
    private static final String FIT_297200 = "P66" + ".".repeat(36) + ":333333333333";
    private static final String[] ONLY_ONE = {"P11.", "P11#", "P11.:11", "P22....:2222",
        "P22%...:1111", "P33#########:000000", "P33.........:123321"};

    private static void keepsAll() {
        Checks.term("what would be; these and all following methods up to the save slots change "
                + "nothing.");
        for (String text : new String[] {"P23#.,.#.:11110", "P33#...#.##.:111111", "P22#..#:2120",
            FIT_99}) {
            sameAgain(text);
            Checks.keeps("howMany", text, x -> x.howMany());
            Checks.keeps("sure(true)", text, x -> x.sure(true));
            Checks.keeps("sure(false)", text, x -> x.sure(false));
            Checks.keeps("split", text, x -> x.split());
            Checks.keeps("bestExchange", text, x -> x.bestExchange());
            Checks.keeps("runScript", text, x -> x.runScript(4, 5000_2111_3005_1001L));
            Checks.keeps("runScript", text, x -> x.runScript(3, 4000_6000_4001L));
            Checks.keeps("simulate", text, x -> x.simulate(7, 99));
            if (!text.endsWith("2120")) {
                Checks.keeps("nearest", text, x -> x.nearest());
            }
        }
    }

    private static void sameAgain(String text) {
        CountedCells x = Checks.of(text);
        int[] first = {x.howMany(), x.sure(true), x.sure(false), x.split(), x.bestExchange(),
            x.runScript(2, 4000_6000L), x.simulate(7, 9)};
        int[] second = {x.howMany(), x.sure(true), x.sure(false), x.split(), x.bestExchange(),
            x.runScript(2, 4000_6000L), x.simulate(7, 9)};
        Checks.is("the same again of " + text, java.util.Arrays.toString(first),
            java.util.Arrays.toString(second));
        if (first[0] > 0) {
            Checks.is("nearest of " + text, x.nearest(), x.nearest());
        }
    }

    // ---- howMany

    private static void many(String text, int due) {
        Checks.is("howMany of " + text, due, Checks.of(text).howMany());
    }

    private static void howMany() {
        Checks.sentence(22, "Returns how many there are, or 100 if there are more.");
        for (String text : SolveEdgeTest.UNFIT) {
            many(text, 0);
        }
        for (String text : ONLY_ONE) {
            many(text, 1);
        }
        many("P22....:1111", 2);
        many(FIT_98, 98);
        many(FIT_99, 99);
        many(FIT_100, 100);
        many(FIT_101, 100);
        many(FIT_2040, 100);
        many(FIT_297200, 100);
        many("P66" + ".".repeat(36) + ":111111111111", 100);
        many(SolveEdgeTest.RING, 2);
        many("P66" + "#".repeat(36) + ":666666666666", 1);
        many("P66" + "#".repeat(36) + ":000000000000", 1);
    }

    // ---- sure

    private static void surely(String text, int filled, int empty) {
        Checks.is("sure(true) of " + text, filled, Checks.of(text).sure(true));
        Checks.is("sure(false) of " + text, empty, Checks.of(text).sure(false));
    }

    private static void sure() {
        Checks.sentence(23, "whether those are counted that are filled in all fitting pictures, or "
                + "those that are empty in all of them");
        for (String text : SolveEdgeTest.UNFIT) {
            surely(text, 0, 0);
        }
        surely("P11.", 0, 1);
        surely("P11#:00", 0, 1);
        surely("P11.:11", 1, 0);
        surely("P22%...:1111", 2, 2);
        surely("P66" + ".".repeat(36) + ":666666666666", 36, 0);
        surely("P66" + "#".repeat(36) + ":000000000000", 0, 36);
        surely("P22....:1111", 0, 0);
        surely("P33%,.......:111111", 1, 4);
        surely(SolveEdgeTest.RING, 0, 24);
        surely(FIT_99, 0, 0);
        surely(FIT_101, 0, 2);
        // More than 100 pictures fit, and the sure cells still are found.
        surely("P66" + ".".repeat(36) + ":632223633222", 11, 0);
        surely("P66" + ".".repeat(36) + ":022222022222", 0, 11);
        surely(FIT_297200, 0, 0);
        surely("P66%,%,%," + ".".repeat(30) + ":333333333333", 3, 3);
    }

    // ---- split

    private static void parts(String text, int due) {
        Checks.is("split of " + text, due, Checks.of(text).split());
    }

    private static void splitOfNone() {
        Checks.sentence(24, "NONE if howMany() is less than 2, or 100.");
        for (String text : SolveEdgeTest.UNFIT) {
            parts(text, NONE);
        }
        for (String text : ONLY_ONE) {
            parts(text, NONE);
        }
        parts("P22....:1111", 0);
        parts(SolveEdgeTest.RING, 0);
        parts(FIT_99, 11);
        parts(FIT_100, NONE);
        parts(FIT_101, NONE);
        parts(FIT_2040, NONE);
        parts(FIT_297200, NONE);
    }

    private static void splitOfSome() {
        Checks.sentence(24, "the cell for which the smaller one of these two numbers is greatest: "
                + "that of the fitting pictures in which it is filled, that of those in which it "
                + "is empty; among several the first one");
        // Of 5 pictures, the cells are filled in 4 4 2 / 4 4 2 / 2 2 1.
        parts("P33.........:221221", 2);
        // 1 3 1 / 1 3 1 / 3 4 3.
        parts("P33.........:112121", 1);
        // 1 0 3 1 / 1 5 3 1 / 3 0 4 3: the pinned cell parts nothing.
        parts("P34.....%......:1221121", 2);
        // Of 9 pictures, in 6 6 6 9 / 7 7 7 6 / 5 5 5 3.
        parts("P34...%........:3322222", 20);
        // In 3 3 9 3 / 2 2 3 2 / 4 4 6 4.
        parts("P34..%.........:2121121", 20);
        // The cells in front are sure; the last row and the last column are the only loose ones.
        parts("P66" + ",".repeat(28) + "..,,,,..:000011000011", 44);
        parts("P33,........:111111", 1);
    }

    // ---- nearest

    private static void near(String text, int due) {
        Checks.is("nearest of " + text, due, Checks.of(text).nearest());
    }

    private static void nearest() {
        Checks.sentence(25, "Returns the smallest number of cells in which a fitting picture "
                + "differs from the cells as they are now.");
        near("P11.", 0);
        near("P11.:11", 1);
        near("P66" + ".".repeat(36) + ":666666666666", 36);
        near("P66" + "#".repeat(36) + ":000000000000", 36);
        near("P22#..#", 0);
        near("P22.##.", 0);
        near("P22#...:1111", 1);
        near("P22.#..:1111", 1);
        near("P22##..:1111", 2);
        near("P33#####....:111111", 4);
        // The nearest one is neither the first nor the last.
        near("P33.#.#.....:111111", 1);
        near(SolveEdgeTest.RING, 6);
        near(FIT_98, 14);
        near(FIT_99, 10);
        near("P55#########################:3211312421", 15);
    }

    private static void nearestRefused() {
        Checks.sentence(25, "IllegalStateException if howMany() is 0 or 100");
        for (String text : SolveEdgeTest.UNFIT) {
            Checks.refuses("nearest", Checks.STATE, text, x -> x.nearest());
        }
        for (String text : new String[] {FIT_100, FIT_101, FIT_2040}) {
            Checks.refuses("nearest", Checks.STATE, text, x -> x.nearest());
        }
        Checks.failsWith("nearest of 297200", Checks.STATE, () -> Checks.of(FIT_297200).nearest());
    }

    // ---- bestExchange

    /** What is behind each exchange, in their order, is due, and so is the number of the best. */
    private static void best(String text, String dueBehind, int due) {
        CountedCells x = Checks.of(text);
        StringBuilder behind = new StringBuilder();
        for (int i = 0; i < x.about(10); i++) {
            int e = x.exchangeAt(i);
            behind.append(i == 0 ? "" : " ")
                .append(x.exchange(e / 1000, e / 100 % 10, e / 10 % 10, e % 10))
                .append('/').append(x.about(8));
            x.undo();
        }
        Checks.is("pieces and outlines behind " + text, dueBehind, behind.toString());
        Checks.is("bestExchange of " + text, due, x.bestExchange());
    }

    private static void bestExchange() {
        Checks.sentence(26, "Returns the number of the possible exchange behind which there are "
                + "fewest pieces, among several that with the smallest outline of all filled "
                + "cells, among several of these the first one");
        best("P22#..#", "2/8", 0);
        best("P34##..###.#.##", "2/18 2/16 1/18", 2);
        best("P34.#.##.##.###", "2/16 1/18 2/18", 1);
        best("P34.#.####.###.", "1/16 2/18 1/14 2/16", 2);
        best("P34##.####...#.", "3/18 1/14 1/16 2/14", 1);
        best("P34.#####....#.", "2/16 3/18 2/14 3/18", 2);
        best("P34#.#..#####.#", "2/20 2/18 2/18 2/18 2/20", 1);
        best("P34###...##..##", "2/18 2/18 2/16 2/16", 2);
        best("P33#...#...#", "3/12 3/12 3/12", 0);
        Checks.sentence(26, "NONE if none is possible.");
        best("P11.", "", NONE);
        best("P16#.#.#.", "", NONE);
        best("P22####", "", NONE);
        best("P22#..%", "", NONE);
        best("P66" + "#".repeat(36), "", NONE);
        best("P66" + "%,".repeat(18), "", NONE);
    }

    public static void main(String[] args) {
        keepsAll();
        howMany();
        sure();
        splitOfNone();
        splitOfSome();
        nearest();
        nearestRefused();
        bestExchange();
        Checks.end();
    }
}
