/** Promises 18 and 19 and the terms of fitting pictures, sentence by sentence. */
public final class SolveEdgeTest {
    /** No picture fits: for the sums, a too large count, pins, or a way in which lines meet. */
    static final String[] UNFIT = {"P22....:2120", "P12..:311", "P11.:60", "P11.:06",
        "P11%:00", "P11,:11", "P22%...:0101", "P22,...:2011", "P33...,,....:020020",
        "P33,.,.....,:201111", "P33.........:330321", "P22####:0001"};
    /** Two fitting pictures: the way from one to the other leads through all rows and columns. */
    static final String RING = "P66" + "..,,,," + ",..,,," + ",,..,," + ",,,..," + ",,,,.."
            + ".,,,,." + ":111111111111";
    private static final String ALL = "P66" + ".".repeat(36) + ":" + "6".repeat(12);

    private static void solves(String text, int which, int changed, String due) {
        CountedCells x = Checks.of(text);
        Checks.is("solve(" + which + ") of " + text, changed, x.solve(which));
        Checks.is("solve(" + which + ") of " + text + " shown", due + text.substring(due.length()),
            Checks.show(x));
    }

    /** The pictures to which next leads one after the other, and then to no more. */
    private static void leads(String text, String... due) {
        CountedCells x = Checks.of(text);
        String before = text.substring(0, text.indexOf(':'));
        for (String then : due) {
            int changed = 0;
            for (int i = 3; i < then.length(); i++) {
                changed += "#%".indexOf(then.charAt(i)) >= 0 != "#%".indexOf(before.charAt(i)) >= 0
                    ? 1 : 0;
            }
            Checks.is("next of " + before, changed, x.next());
            Checks.is("next of " + before + " shown", then + text.substring(then.length()),
                Checks.show(x));
            before = then;
        }
        Checks.failsWith("next of " + before, Checks.STATE, () -> x.next());
        Checks.is("next behind the last", before, Checks.show(x).substring(0, before.length()));
    }

    private static void fitting() {
        Checks.term("A fitting picture is a way to fill the cells in which each line has the "
                + "wanted count as its count and each pinned cell is as it is now.");
        solves("P33.........:000000", 0, 0, "P33.........");
        solves("P33#########:000000", 0, 9, "P33.........");
        solves(ALL, 0, 36, "P66" + "#".repeat(36));
        solves(ALL, 1, 36, "P66" + "#".repeat(36));
        solves("P11.:11", 0, 1, "P11#");
        solves("P16......:6111111", 0, 6, "P16######");
        solves("P61......:1111116", 1, 6, "P61######");
        solves("P33,........:111111", 1, 3, "P33,#.#....#");
        solves("P33%........:111111", 0, 2, "P33%....#.#.");
        solves("P22%,,%:1111", 0, 0, "P22%,,%");
        // The two fitting pictures differ in all cells that are not pinned.
        leads(RING, "P66" + ".#,,,," + ",.#,,," + ",,.#,," + ",,,.#," + ",,,,.#" + "#,,,,.",
            "P66" + "#.,,,," + ",#.,,," + ",,#.,," + ",,,#.," + ",,,,#." + ".,,,,#");
    }

    private static void fittingOrder() {
        Checks.term("Of two of them the one is first in which the first cell, in the order of "
                + "cells, that is not the same in both is empty.");
        Checks.sentence(18, "which: 0: the first fitting picture; 1: the last one");
        solves("P22....:1111", 0, 2, "P22.##.");
        solves("P22....:1111", 1, 2, "P22#..#");
        solves("P33.........:111111", 0, 3, "P33..#.#.#..");
        solves("P33.........:111111", 1, 3, "P33#...#...#");
        solves("P33.........:212221", 0, 5, "P33.###..##.");
        solves("P33.........:212221", 1, 5, "P33##.#...##");
    }

    private static void solveReturns() {
        Checks.sentence(18, "Returns how many cells change.");
        CountedCells x = Checks.of("P22....:1111");
        Checks.is("to the first", 2, x.solve(0));
        Checks.is("the first again", 0, x.solve(0));
        Checks.is("to the last", 4, x.solve(1));
        Checks.is("the last again", 0, x.solve(1));
        Checks.is("full", 2, Checks.of("P22####:1111").solve(0));
        Checks.is("the only one", 0, Checks.of("P22%..#:1111").solve(1));
    }

    private static void solveRefused() {
        Checks.sentence(18, "IllegalArgumentException if which is not 0 or 1");
        for (int which : Checks.outside(0, 1)) {
            Checks.refuses("solve(" + which + ")", Checks.ARGUMENT, "P22#..#:1111",
                x -> x.solve(which));
            for (String text : UNFIT) {
                Checks.refuses("solve(" + which + ")", Checks.ARGUMENT, text,
                    x -> x.solve(which));
            }
        }
        Checks.sentence(18, "IllegalStateException if there is no fitting picture");
        for (String text : UNFIT) {
            Checks.refuses("solve(0)", Checks.STATE, text, x -> x.solve(0));
            Checks.refuses("solve(1)", Checks.STATE, text, x -> x.solve(1));
        }
    }

    private static void nextLeads() {
        Checks.sentence(19, "the first one of those that come, in the order of fitting pictures, "
                + "behind the cells as they are now (which need not fit)");
        leads("P22....:1111", "P22.##.", "P22#..#");
        leads("P22.##.:1111", "P22#..#");
        // These cells do not fit and lie before the first, between the two, and behind the last.
        leads("P22.#.#:1111", "P22.##.", "P22#..#");
        leads("P22.###:1111", "P22#..#");
        leads("P22#...:1111", "P22#..#");
        leads("P22#.#.:1111");
        leads("P22####:1111");
        leads("P33.........:111111", "P33..#.#.#..", "P33..##...#.", "P33.#...##..", "P33.#.#....#",
            "P33#....#.#.", "P33#...#...#");
        leads("P33..%......:111111", "P33..%.#.#..", "P33..%#...#.");
        leads("P33.,.......:111111", "P33.,#.#.#..", "P33.,##...#.", "P33#,...#.#.",
            "P33#,..#...#");
        leads("P66" + ".".repeat(35) + "#:000001000001");
        leads("P66" + ".".repeat(36) + ":000001000001", "P66" + ".".repeat(35) + "#");
    }

    private static void nextReturns() {
        Checks.sentence(19, "Returns how many cells change.");
        Checks.is("from empty to full", 36, Checks.of(ALL).next());
        Checks.is("one cell", 1, Checks.of("P11.:11").next());
        Checks.is("four cells", 4, Checks.of("P22.##.:1111").next());
    }

    private static void nextRefused() {
        Checks.sentence(19, "IllegalStateException if there is no such picture");
        for (String text : UNFIT) {
            Checks.refuses("next", Checks.STATE, text, x -> x.next());
        }
        for (String text : new String[] {"P11.:00", "P11#:11", "P11#:00", "P22#..#:1111",
            "P22####:1111", "P33#...#...#:111111", "P33..%#...#.:111111", "P22%..#:1111"}) {
            Checks.refuses("next", Checks.STATE, text, x -> x.next());
        }
    }

    public static void main(String[] args) {
        fitting();
        fittingOrder();
        solveReturns();
        solveRefused();
        nextLeads();
        nextReturns();
        nextRefused();
        Checks.end();
    }
}
