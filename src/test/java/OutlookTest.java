/** Promises 22 to 26: what would be. */
public final class OutlookTest {
    private static void howMany(String text, int due) {
        CountedCells x = Checks.of(text);
        String before = Checks.show(x);
        Checks.is("howMany of " + text, due, x.howMany());
        Checks.is("howMany changes nothing", before, Checks.show(x));
    }

    private static String ones(int n) {
        return "P" + n + n + ".".repeat(n * n) + ":" + "1".repeat(2 * n);
    }

    private static void howMany() {
        howMany(ones(1), 1);
        howMany(ones(2), 2);
        howMany(ones(3), 6);
        howMany(ones(4), 24);
        howMany(ones(5), 100);
        howMany(ones(6), 100);
        howMany("P44" + ".".repeat(16) + ":22222222", 90);
        howMany("P66" + ".".repeat(36) + ":333333333333", 100);
        howMany("P55%" + ".".repeat(24) + ":1111111111", 24);
        // A fifth of the 120 less those with the pinned one: 96, just below the limit.
        howMany("P55," + ".".repeat(24) + ":1111111111", 96);
        howMany("P26" + ".".repeat(12) + ":33111111", 20);
        howMany("P33.........:000000", 1);
        howMany("P22....:2120", 0);
        howMany("P22....:2222", 1);
        howMany("P12..:311", 0);
        howMany("P11%:00", 0);
        howMany("P11,:11", 0);
        howMany("P11%:11", 1);
    }

    private static void sure() {
        CountedCells x = Checks.of("P33.........:310211");
        Checks.is("sure(true)", 4, x.sure(true));
        Checks.is("sure(false)", 5, x.sure(false));
        x = Checks.of("P33.........:220211");
        Checks.is("sure(true): the first column", 2, x.sure(true));
        Checks.is("sure(false): the last row", 3, x.sure(false));
        x = Checks.of("P33%,.......:111111");
        Checks.is("sure(true) with pins", 1, x.sure(true));
        Checks.is("sure(false) with pins", 4, x.sure(false));
        x = Checks.of("P11%:00");
        Checks.is("sure(true) where nothing fits", 0, x.sure(true));
        Checks.is("sure(false) where nothing fits", 0, x.sure(false));
        x = Checks.of(ones(6));
        Checks.is("sure(true) of many", 0, x.sure(true));
        Checks.is("sure(false) of many", 0, x.sure(false));
        Checks.is("sure changes nothing", ones(6), Checks.show(x));
        Checks.failsWith("sure is no action", Checks.STATE, () -> Checks.of("P11.").undo());
    }

    private static void split(String text, int due) {
        CountedCells x = Checks.of(text);
        String before = Checks.show(x);
        Checks.is("split of " + text, due, x.split());
        Checks.is("split changes nothing", before, Checks.show(x));
    }

    private static void split() {
        split(ones(1), CountedCells.NONE);
        split(ones(2), 0);
        split(ones(3), 0);
        split(ones(5), CountedCells.NONE);
        split("P22....:2120", CountedCells.NONE);
        // Pinned cells part nothing, and in this picture the first row is sure.
        split("P33%,,......:111111", 11);
        // Two ways of three in (0, 0) to (0, 2), but the second row parts no better.
        split("P23......:11110", 0);
        split("P33.........:123321", CountedCells.NONE);
        split("P44" + ".".repeat(16) + ":22222222", 0);
        split("P33,........:111111", 1);
    }

    private static void nearest(String text, int due) {
        CountedCells x = Checks.of(text);
        String before = Checks.show(x);
        Checks.is("nearest of " + text, due, x.nearest());
        Checks.is("nearest changes nothing", before, Checks.show(x));
    }

    private static void nearest() {
        nearest("P33#...#...#", 0);
        nearest("P33.........:111111", 3);
        nearest("P33#########:111111", 6);
        nearest("P33###......:111111", 4);
        nearest("P33##.......:111111", 3);
        nearest("P22##..:1111", 2);
        nearest("P11#:00", 1);
    }

    private static void bestExchange(String text, int due) {
        CountedCells x = Checks.of(text);
        String before = Checks.show(x);
        Checks.is("bestExchange of " + text, due, x.bestExchange());
        Checks.is("bestExchange changes nothing", before, Checks.show(x));
    }

    private static void bestExchange() {
        bestExchange("P33.........", CountedCells.NONE);
        bestExchange("P22####", CountedCells.NONE);
        bestExchange("P22#..%", CountedCells.NONE);
        bestExchange("P22#..#", 0);
        // All ways leave two pieces or more: the first of the equal ones.
        bestExchange("P33#...#...#", 0);
        bestExchange("P33#...##...", 1);
        bestExchange("P44#..#" + ".##." + "...." + "#..#", 5);
        // Fewest pieces count before the smallest outline, the last one's.
        bestExchange("P34" + ".###" + "###." + "#...", 1);
        // Two pieces behind all but the first, the smallest outline behind the third and fifth.
        bestExchange("P34" + "#.##" + ".##." + ".#..", 2);
    }

    public static void main(String[] args) {
        howMany();
        sure();
        split();
        nearest();
        bestExchange();
        Checks.end();
    }
}
