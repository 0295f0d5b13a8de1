import java.math.BigInteger;

/** Promises 27 and 28, sentence by sentence: edges and refused calls of scripts, simulations. */
public final class ScriptEdgeTest {
    private static final int NONE = CountedCells.NONE;
    private static final String PICTURE = "P23#.,%#.:21435";
    private static final String LARGEST = "P66" + ".".repeat(36);
    private static final String CHESS = "P66" + "#.#.#..#.#.#".repeat(3);

    private static void script(String text, int n, long script, int due) {
        Checks.is("runScript(" + n + "," + script + ") of " + text, due,
            Checks.of(text).runScript(n, script));
    }

    private static void succeed(String text, int... commands) {
        for (int command : commands) {
            script(text, 1, command, NONE);
        }
    }

    private static void fail(String text, int... commands) {
        for (int command : commands) {
            script(text, 1, command, 0);
        }
    }

    // ---- the script

    private static void groups() {
        Checks.sentence(27, "the first command is the highest group of the number (with zeros "
                + "before it, if it has fewer digits).");
        script(PICTURE, 1, 0, 0);
        script(PICTURE, 4, 0, 0);
        script(PICTURE, 1, 500, 0);
        script(PICTURE, 2, 5000, 0);
        script(PICTURE, 2, 999_5000, 0);
        script(PICTURE, 4, 5000_5000_5000L, 0);
        script(PICTURE, 2, 5000_0500, 1);
        script(PICTURE, 3, 5000_0000_5000L, 1);
        // The pin is taken away first, then the cell is filled; not the other way round.
        script(PICTURE, 2, 2100_1100L, NONE);
        script(PICTURE, 2, 1100_2100L, 0);
    }

    private static void firstFailure() {
        Checks.sentence(27, "Returns the index, from 0, of the first command that fails; NONE if "
                + "all succeed.");
        script(PICTURE, 1, 5000, NONE);
        script(PICTURE, 2, 5000_5000, NONE);
        script(PICTURE, 3, 5000_5000_5000L, NONE);
        script(PICTURE, 4, 5000_5000_5000_5000L, NONE);
        script(PICTURE, 4, 5001_5000_5000_5000L, 0);
        script(PICTURE, 4, 5000_5001_5000_5001L, 1);
        script(PICTURE, 4, 5000_5000_5001_5001L, 2);
        script(PICTURE, 4, 5000_5000_5000_5001L, 3);
        script(PICTURE, 4, 9999_9999_9999_9999L, 0);
    }

    private static void onCopy() {
        Checks.sentence(27, "Runs a script on a copy of the state.");
        CountedCells x = Checks.of("P22#..#:1111");
        for (int i = 0; i < 3; i++) {
            Checks.is("each run begins with the state", NONE, x.runScript(2, 2001_1010L));
            Checks.is("a pin, then a fill that fails", 1, x.runScript(2, 2001_1000L));
        }
        Checks.failsWith("no action", Checks.STATE, () -> x.undo());
        Checks.is("shown", "P22#..#:1111", Checks.show(x));
        for (long script : new long[] {1010_2001_3006_5000L, 4000_6000_5000_1001L}) {
            Checks.keeps("runScript", "P22#..#:1111", y -> y.runScript(4, script));
        }
    }

    // ---- the commands

    private static void fills() {
        Checks.sentence(27, "1 r c i: fill(r, c, i is 1) (i is 0 or 1).");
        succeed(PICTURE, 1000, 1001, 1010, 1011, 1110, 1111, 1120, 1121);
        fail(PICTURE, 1002, 1009, 1012, 1122, 1129);
        script("P13#.#", 2, 1011_7001L, NONE);
        script("P13#.#", 2, 1010_7001L, 1);
        script("P13#.#", 2, 1000_7001L, NONE);
        script(LARGEST, 2, 1551_7000L, 1);
    }

    private static void pins() {
        Checks.sentence(27, "2 r c i: pin(r, c, i is 1) (i is 0 or 1).");
        succeed(PICTURE, 2000, 2001, 2020, 2021, 2100, 2101, 2120, 2121);
        fail(PICTURE, 2002, 2009, 2022, 2122, 2129);
        script(PICTURE, 2, 2121_1121L, 1);
        script(PICTURE, 2, 2120_1121L, NONE);
        script(PICTURE, 2, 2020_1021L, NONE);
        script(PICTURE, 2, 2021_1021L, 1);
    }

    private static void wants() {
        Checks.sentence(27, "3 l l n: want(ll, n).");
        Checks.sentence(27, "ll and xy are decimal numbers.");
        succeed(PICTURE, 3000, 3006, 3040, 3046);
        fail(PICTURE, 3007, 3009, 3047, 3050, 3056, 3100, 3400, 3996);
        succeed(LARGEST, 3096, 3100, 3106, 3110, 3116);
        fail(LARGEST, 3107, 3117, 3120, 3126, 3200, 3990);
        script(LARGEST, 2, 3116_9000L, 1);
        script(LARGEST, 2, 3116_9001L, NONE);
        script(LARGEST, 2, 3110_9000L, NONE);
        // Line 11 is the last column: a filled cell of it then is wanted.
        script(LARGEST, 4, 3111_3051_1551_9000L, NONE);
    }

    private static void solves() {
        Checks.sentence(27, "4 0 0 i: solve(i).");
        String text = "P22....:1111";
        succeed(text, 4000, 4001);
        fail(text, 4002, 4009, 4010, 4100, 4110, 4011, 4101);
        script(text, 2, 4000_6000L, NONE);
        script(text, 2, 4001_6000L, 1);
        fail("P22....:2120", 4000, 4001);
        script(text, 2, 3000_4000L, 1);
        script(text, 2, 3000_4001L, 1);
    }

    private static void turns() {
        Checks.sentence(27, "5 0 0 0: turn().");
        succeed("P16#.....", 5000);
        fail("P16#.....", 5001, 5010, 5100, 5111, 5999);
        script("P16#.....", 2, 5000_1501L, NONE);
        script("P16#.....", 2, 5000_1051L, 1);
        script("P16#.....", 3, 5000_5000_1051L, NONE);
    }

    private static void nexts() {
        Checks.sentence(27, "6 0 0 0: next().");
        succeed("P22....:1111", 6000);
        succeed("P22.##.:1111", 6000);
        fail("P22....:1111", 6001, 6010, 6100, 6111, 6999);
        fail("P22#..#:1111", 6000);
        fail("P22####:1111", 6000);
        fail("P22....:2120", 6000);
        script("P22....:1111", 3, 6000_6000_6000L, 2);
    }

    private static void looks() {
        Checks.sentence(27, "7 0 x y: succeeds if there are at most xy pieces.");
        succeed(CHESS, 7018, 7019, 7020, 7099);
        fail(CHESS, 7017, 7000, 7009, 7118, 7199, 7918);
        succeed("P11.", 7000, 7001);
        succeed("P11#", 7001, 7010);
        fail("P11#", 7000, 7101);
        Checks.sentence(27, "8 0 x y: succeeds if the outline of all filled cells is at most xy.");
        succeed(CHESS, 8072, 8073, 8080, 8099);
        fail(CHESS, 8071, 8069, 8000, 8172, 8199, 8972);
        succeed("P11.", 8000, 8001);
        succeed("P11#", 8004, 8010);
        fail("P11#", 8003, 8104);
        Checks.sentence(27, "9 0 0 n: succeeds if the count of at most n lines is not the wanted "
                + "one.");
        succeed("P22#..#", 9000, 9001, 9009);
        succeed("P22#..#:0011", 9002, 9003);
        fail("P22#..#:0011", 9000, 9001, 9012, 9102, 9010, 9100);
        // All twelve lines are wrong here: no digit is enough.
        fail("P66" + ".".repeat(36) + ":" + "1".repeat(12), 9000, 9009);
        succeed("P66" + ".".repeat(36) + ":111111111000", 9009);
        fail("P66" + ".".repeat(36) + ":111111111000", 9008);
    }

    private static void failsLikeMethod() {
        Checks.sentence(27, "The commands 1 to 6 fail if the method would throw an exception");
        fail(PICTURE, 1020, 1021, 1100, 1101);
        fail(PICTURE, 3007);
        fail("P22....:2120", 4000, 4001, 6000);
        fail("P11#:11", 6000);
    }

    private static void missing() {
        Checks.sentence(27, "commands with rows, columns or lines that do not exist fail");
        fail(PICTURE, 1200, 1201, 1030, 1031, 1130, 1900, 1090, 1990, 1991);
        fail(PICTURE, 2200, 2201, 2030, 2031, 2130, 2900, 2090, 2990, 2991);
        fail(PICTURE, 3050, 3051, 3060, 3990, 3500);
        succeed(LARGEST, 1550, 1551, 2550, 2551);
        fail(LARGEST, 1650, 1560, 2650, 2560, 3120);
        // Behind a turn, other rows and columns exist.
        script(PICTURE, 2, 5000_2210L, NONE);
        script(PICTURE, 2, 5000_2120L, 1);
    }

    private static void otherGroups() {
        Checks.sentence(27, "and so does any other group (also one with another digit where a 0 is "
                + "written)");
        for (String text : new String[] {"P23#.,.#.:11110", "P22....:1111"}) {
            for (int group = 0; group < 10000; group++) {
                script(text, 1, group, isKnown(group) && succeedsByMethod(text, group) ? NONE : 0);
            }
        }
    }

    /** Whether a group is written as one of the nine commands. */
    private static boolean isKnown(int group) {
        String digits = String.valueOf(10000 + group).substring(1);
        return digits.matches("[12]..[01]|3...|400[01]|[56]000|[78]0..|900.");
    }

    private static boolean succeedsByMethod(String text, int group) {
        CountedCells x = Checks.of(text);
        int r = group / 100 % 10;
        int c = group / 10 % 10;
        int i = group % 10;
        try {
            switch (group / 1000) {
                case 1: x.fill(r, c, i == 1); return true;
                case 2: x.pin(r, c, i == 1); return true;
                case 3: x.want(10 * r + c, i); return true;
                case 4: x.solve(i); return true;
                case 5: x.turn(); return true;
                case 6: x.next(); return true;
                case 7: return x.about(7) <= 10 * c + i;
                case 8: return x.about(8) <= 10 * c + i;
                default: return x.about(6) <= i;
            }
        } catch (RuntimeException e) {
            return false;
        }
    }

    // ---- what is refused

    private static void scriptRange() {
        Checks.sentence(27, "n: number of commands, 1 to 4");
        Checks.sentence(27, "script: the commands, a number of at most 4 * n digits (0 or more)");
        long limit = 1;
        for (int n = 1; n <= 4; n++) {
            limit *= 10000;
            script(PICTURE, n, 0, 0);
            script(PICTURE, n, limit - 1, 0);
        }
    }

    private static void scriptRefused() {
        Checks.sentence(27, "IllegalArgumentException if n is out of range, or if script is "
                + "negative or has more than 4 * n digits");
        for (int n : Checks.outside(1, 4)) {
            for (long script : new long[] {0, 5000, -1, Long.MAX_VALUE}) {
                Checks.refuses("runScript(" + n + "," + script + ")", Checks.ARGUMENT, PICTURE,
                    x -> x.runScript(n, script));
            }
        }
        long limit = 1;
        for (int i = 1; i <= 4; i++) {
            limit *= 10000;
            int n = i;
            // In the last two, the lowest 32 bits or groups would be a script.
            long[] wrong = {limit, limit + 5000, -1, -5000, Long.MAX_VALUE, Long.MIN_VALUE,
                (1L << 62) + 5000, Long.MIN_VALUE + 5000};
            for (long script : wrong) {
                Checks.refuses("runScript(" + n + "," + script + ")", Checks.ARGUMENT, PICTURE,
                    x -> x.runScript(n, script));
            }
        }
    }

    // ---- simulate

    private static int simulated(String text, long seed, int m) {
        return Checks.of(text).simulate(seed, m);
    }

    /** The same by actions, with numbers of any size in the place of the overflow. */
    private static int byActions(String text, long seed, int m) {
        BigInteger size = BigInteger.ONE.shiftLeft(64);
        BigInteger x = BigInteger.valueOf(seed);
        CountedCells y = Checks.of(text);
        for (int i = 0; i < m; i++) {
            x = x.multiply(BigInteger.valueOf(6364136223846793005L))
                .add(BigInteger.valueOf(1442695040888963407L)).mod(size);
            int r = x.shiftRight(33).intValueExact();
            int many = y.about(10);
            if (many != 0) {
                int e = y.exchangeAt(r % many);
                y.exchange(e / 1000, e / 100 % 10, e / 10 % 10, e % 10);
            }
        }
        return 100 * y.about(7) + y.about(8);
    }

    private static void rounds() {
        Checks.sentence(28, "m: number of rounds, 1 to 99");
        Checks.sentence(28, "Each round first replaces x by x * 6364136223846793005L + "
                + "1442695040888963407L (with long overflow), and r = (int) (x >>> 33) is "
                + "computed.");
        Checks.sentence(28, "seed: any long");
        long[] seeds = {0, 1, -1, Long.MIN_VALUE, Long.MAX_VALUE, 77, -6364136223846793005L,
            1L << 32, 1L << 33};
        for (String text : new String[] {"P34##..###.#.##", "P44#..#.##.##...#.#",
            "P66##...." + "#..#.." + "...#.#" + "..##.." + "#.#..#" + "......"}) {
            for (long seed : seeds) {
                for (int m : new int[] {1, 2, 3, 50, 98, 99}) {
                    Checks.is("simulate(" + seed + "," + m + ") of " + text,
                        byActions(text, seed, m), simulated(text, seed, m));
                }
            }
        }
    }

    private static void oneRound() {
        Checks.sentence(28, "If N, the number of possible exchanges, is not 0, the exchange with "
                + "the number r % N is done.");
        // From the seed 0, x becomes the number that is added, and r 167951807: 2 modulo 3. The
        // three exchanges lead to two pieces with 18 sides, two with 16, one with 18.
        Checks.is("the third of three", 118, simulated("P34##..###.#.##", 0, 1));
        // One exchange only: each round does it, there and back.
        for (int m = 1; m <= 99; m++) {
            Checks.is("rounds " + m, m % 2 == 1 ? 116 : 216, simulated("P33#.#.#####", 1, m));
        }
        for (String text : new String[] {"P11#", "P16#.#.##", "P22####", "P22%..#"}) {
            CountedCells y = Checks.of(text);
            int due = 100 * y.about(7) + y.about(8);
            Checks.is("simulate of " + text, due, y.simulate(1, 1));
            Checks.is("simulate of " + text, due, y.simulate(Long.MIN_VALUE, 99));
        }
        Checks.sentence(28, "Returns 100 * (the number of pieces at the end) + (the outline of all "
                + "filled cells at the end).");
        Checks.is("simulate of most pieces", 1872,
            simulated("P66" + "%,%,%,,%,%,%".repeat(3), 3, 99));
        Checks.is("simulate of empty cells", 0, simulated("P11.", 3, 99));
        Checks.is("simulate of full cells", 124, simulated("P66" + "#".repeat(36), 3, 99));
    }

    private static void simulateOnCopy() {
        Checks.sentence(28, "Simulates m rounds on a copy of the state.");
        CountedCells x = Checks.of("P34##..###.#.##");
        int first = x.simulate(5, 7);
        Checks.is("the same again", first, x.simulate(5, 7));
        Checks.failsWith("no action", Checks.STATE, () -> x.undo());
        Checks.keeps("simulate", "P34##..###.#.##", y -> y.simulate(0, 1));
        Checks.keeps("simulate", "P34##..###.#.##", y -> y.simulate(-1, 99));
    }

    private static void simulateRefused() {
        Checks.sentence(28, "IllegalArgumentException if m is out of range");
        for (int m : Checks.outside(1, 99)) {
            for (long seed : new long[] {0, Long.MIN_VALUE, Long.MAX_VALUE}) {
                Checks.refuses("simulate(" + seed + "," + m + ")", Checks.ARGUMENT, "P22#..#",
                    x -> x.simulate(seed, m));
            }
        }
    }

    public static void main(String[] args) {
        groups();
        firstFailure();
        onCopy();
        fills();
        pins();
        wants();
        solves();
        turns();
        nexts();
        looks();
        failsLikeMethod();
        missing();
        otherGroups();
        scriptRange();
        scriptRefused();
        rounds();
        oneRound();
        simulateOnCopy();
        simulateRefused();
        Checks.end();
    }
}
