/** Promises 27 and 28: scripts and simulations. */
public final class ScriptTest {
    private static final int NONE = CountedCells.NONE;

    private static void script(CountedCells x, int n, long script, int due) {
        Checks.is("runScript(" + n + "," + script + ")", due, x.runScript(n, script));
    }

    private static void cells() {
        CountedCells x = Checks.of("P23#.,%#.");
        script(x, 1, 1000, NONE);
        script(x, 1, 1121, NONE);
        script(x, 1, 1002, 0);
        script(x, 1, 1200, 0);
        script(x, 1, 1030, 0);
        script(x, 1, 1020, 0);
        script(x, 1, 1101, 0);
        script(x, 1, 2020, NONE);
        script(x, 1, 2001, NONE);
        script(x, 1, 2002, 0);
        script(x, 1, 2200, 0);
        script(x, 1, 2130, 0);
        // The pin goes, then the cell is filled; or it comes, and then the cell is not.
        script(x, 2, 2020_1021L, NONE);
        script(x, 2, 2001_1000L, 1);
        // Two fills join the cells, so that one piece is left.
        script(x, 3, 7002_1010_7001L, NONE);
        script(x, 2, 1100_7001L, 0);
        script(x, 2, 1001_7001L, NONE);
        script(x, 2, 1000_8006L, NONE);
        script(x, 2, 1000_8005L, 1);
    }

    private static void wants() {
        CountedCells x = Checks.of("P66" + ".".repeat(36));
        script(x, 1, 3000, NONE);
        script(x, 1, 3116, NONE);
        script(x, 1, 3126, 0);
        script(x, 1, 3117, 0);
        script(x, 2, 3116_9001L, NONE);
        script(x, 2, 3116_9000L, 1);
        script(x, 3, 3003_3093_9001L, 2);
        script(x, 3, 3003_3093_9002L, NONE);
        Checks.is("a script wants in the copy", 0, x.line(0, 1));
    }

    private static void fits() {
        CountedCells x = Checks.of("P22....:1111");
        script(x, 1, 4000, NONE);
        script(x, 1, 4001, NONE);
        script(x, 1, 4002, 0);
        script(x, 1, 4010, 0);
        script(x, 1, 4100, 0);
        script(x, 1, 6000, NONE);
        script(x, 1, 6001, 0);
        script(x, 1, 6010, 0);
        script(x, 1, 6100, 0);
        script(x, 3, 6000_6000_6000L, 2);
        script(x, 2, 4000_6000L, NONE);
        script(x, 2, 4001_6000L, 1);
        script(x, 2, 4001_9000L, NONE);
        script(x, 2, 3000_4000L, 1);
        script(x, 2, 3000_6000L, 1);
        script(x, 4, 4000_2001_4001_1000L, 3);
    }

    private static void turns() {
        CountedCells x = Checks.of("P13#..");
        script(x, 1, 5000, NONE);
        script(x, 1, 5001, 0);
        script(x, 1, 5010, 0);
        script(x, 1, 5100, 0);
        script(x, 2, 5000_1201L, NONE);
        script(x, 1, 1201, 0);
        script(x, 2, 5000_1021L, 1);
        script(x, 2, 5000_9000L, NONE);
    }

    private static void looks() {
        CountedCells x = Checks.of("P66" + "#.#.#..#.#.#".repeat(3));
        script(x, 1, 7018, NONE);
        script(x, 1, 7017, 0);
        script(x, 1, 7118, 0);
        script(x, 1, 8072, NONE);
        script(x, 1, 8071, 0);
        script(x, 1, 8172, 0);
        CountedCells y = Checks.of("P22....:1111");
        script(y, 1, 9004, NONE);
        script(y, 1, 9003, 0);
        script(y, 1, 9009, NONE);
        script(y, 1, 9014, 0);
        script(y, 1, 9104, 0);
        CountedCells empty = new CountedCells();
        script(empty, 1, 7000, NONE);
        script(empty, 1, 8000, NONE);
        script(empty, 1, 9000, NONE);
    }

    private static void groups() {
        CountedCells x = new CountedCells();
        script(x, 1, 0, 0);
        script(x, 1, 999, 0);
        script(x, 2, 5000, 0);
        script(x, 2, 50000000L, 1);
        script(x, 4, 5000_5000_5000_5000L, NONE);
        script(x, 4, 5000_5000_5000_0000L, 3);
        script(x, 4, 0, 0);
        script(x, 4, 9999_9999_9999_9999L, 0);
        script(x, 3, 9999_9999_9999L, 0);
        Checks.failsWith("runScript is no action", Checks.STATE, () -> {
            CountedCells y = new CountedCells();
            y.runScript(1, 1001);
            y.undo();
        });
    }

    private static void simulate() {
        CountedCells x = Checks.of("P23##...#");
        String before = Checks.show(x);
        CountedCells two = Checks.of("P22#..#");
        Checks.is("simulate: one round", 208, two.simulate(0, 1));
        Checks.is("simulate: two rounds", 208, two.simulate(0, 2));
        long seed = 77;
        for (int m = 1; m <= 99; m++) {
            Checks.is("simulate(77," + m + ")", byActions(before, seed, m), x.simulate(seed, m));
            Checks.is("simulate(-1," + m + ")", byActions(before, -1, m), x.simulate(-1, m));
        }
        Checks.is("simulate(least,99)", byActions(before, Long.MIN_VALUE, 99),
            x.simulate(Long.MIN_VALUE, 99));
        Checks.is("simulate changes nothing", before, Checks.show(x));
        Checks.is("simulate without exchanges", 110, Checks.of("P33####.....").simulate(5, 99));
        Checks.is("simulate of full cells", 108, Checks.of("P22####").simulate(5, 99));
        Checks.is("simulate of empty cells", 0, new CountedCells().simulate(5, 1));
        Checks.is("simulate with pins", 208, Checks.of("P22%..#").simulate(1, 9));
    }

    /** The same by the actions of an object of its own. */
    private static int byActions(String text, long seed, int m) {
        CountedCells y = Checks.of(text);
        long x = seed;
        for (int i = 0; i < m; i++) {
            x = x * 6364136223846793005L + 1442695040888963407L;
            int r = (int) (x >>> 33);
            int many = y.about(10);
            if (many != 0) {
                int e = y.exchangeAt(r % many);
                y.exchange(e / 1000, e / 100 % 10, e / 10 % 10, e % 10);
            }
        }
        return 100 * y.about(7) + y.about(8);
    }

    public static void main(String[] args) {
        cells();
        wants();
        fits();
        turns();
        looks();
        groups();
        simulate();
        Checks.end();
    }
}
