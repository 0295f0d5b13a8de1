/** Promises 1 to 5: a new object and the text. */
public final class TextTest {
    private static void newObject() {
        CountedCells x = new CountedCells();
        Checks.is("new: picture", "P33.........:000000", Checks.show(x));
        Checks.is("new: text", 0, x.clearText());
        Checks.is("new: wrong lines", 0, x.about(6));
        Checks.failsWith("new: undo", Checks.STATE, () -> x.undo());
        Checks.failsWith("new: restore(0)", Checks.STATE, () -> x.restore(0));
        Checks.failsWith("new: restore(1)", Checks.STATE, () -> x.restore(1));
        Checks.is("NONE", -9, CountedCells.NONE);
    }

    private static void append() {
        CountedCells x = new CountedCells();
        Checks.is("append(0)", 1, x.append(0));
        Checks.is("append(255)", 2, x.append(255));
        for (int i = 3; i <= 60; i++) {
            Checks.is("append to " + i, i, x.append('P'));
        }
        Checks.failsWith("append to 61", Checks.STATE, () -> x.append('P'));
        Checks.is("text as long as before", 60, x.clearText());
    }

    private static void clearText() {
        CountedCells x = new CountedCells();
        Checks.is("clearText: none", 0, x.clearText());
        x.append('P');
        x.append('P');
        Checks.is("clearText: two", 2, x.clearText());
        Checks.is("clearText: again", 0, x.clearText());
        Checks.is("clearText: then append", 1, x.append('P'));
        x.append('1');
        x.append('1');
        x.append('#');
        Checks.is("clearText: old signs are gone", CountedCells.NONE, x.errorPosition());
    }

    private static void position(String text, int due) {
        CountedCells x = new CountedCells();
        Checks.write(x, text);
        Checks.is("errorPosition of " + text, due, x.errorPosition());
    }

    private static void errorPosition() {
        int none = CountedCells.NONE;
        position("", 0);
        position("p11.", 0);
        position(" P11.", 0);
        position("P", 1);
        position("P0", 1);
        position("P7", 1);
        position("P1", 2);
        position("P10", 2);
        position("P17", 2);
        position("P1:", 2);
        position("P11", 3);
        position("P11:", 3);
        position("P11 ", 3);
        position("P11.", none);
        position("P11#", none);
        position("P11,", none);
        position("P11%", none);
        position("P11..", 4);
        position("P11.:", 5);
        position("P11.:7", 5);
        position("P11.:6", 6);
        position("P11.:6.", 6);
        position("P11.:60", none);
        position("P11.:600", 7);
        position("P11.:60:", 7);
        position("P23.#,%.#", none);
        position("P23.#,%.", 8);
        position("P23.#,%.#:0123", 14);
        position("P23.#,%.#:01236", none);
        position("P23.#,%.#:012345", 15);
        position("P23.#,%.#:0123/", 14);
        position("P23.#,%.#:", 10);
        position("P66" + ".".repeat(36), none);
        position("P66" + ".".repeat(36) + ":666666000000", none);
        position("P66" + ".".repeat(36) + ":6666660000000", 52);
        position("P66" + ".".repeat(35), 38);
        position("P66" + "#".repeat(57), 39);
        position("P11" + (char) 163, 3);
        position((char) 0 + "", 0);
    }

    private static void load() {
        CountedCells x = new CountedCells();
        x.want(0, 5);
        x.save(0);
        x.save(1);
        Checks.write(x, "P23.#,%#.");
        Checks.is("load", 3, x.load());
        Checks.is("load: counts are wanted", "P23.#,%#.:12120", Checks.show(x));
        Checks.failsWith("load: nothing remembered", Checks.STATE, () -> x.undo());
        Checks.failsWith("load: slot 0 is empty", Checks.STATE, () -> x.restore(0));
        Checks.failsWith("load: slot 1 is empty", Checks.STATE, () -> x.restore(1));
        x.fill(0, 0, true);
        Checks.is("load keeps the text", 3, x.load());
        Checks.is("load again", "P23.#,%#.:12120", Checks.show(x));
        Checks.is("load is no action", 9, x.clearText());
        Checks.write(x, "P12%.:605");
        Checks.is("load with counts", 1, x.load());
        Checks.is("load: wanted counts", "P12%.:605", Checks.show(x));
        Checks.write(x, "P61......");
        Checks.is("load of empty cells", 0, x.load());
        Checks.is("load: six rows", "P61......:0000000", Checks.show(x));
        x.save(1);
        x.pin(5, 0, true);
        x.append('.');
        Checks.failsWith("load of too much", Checks.STATE, () -> x.load());
        Checks.is("a load that throws keeps the slots", 0, x.restore(1));
        x.pin(5, 0, true);
        Checks.failsWith("load of too much", Checks.STATE, () -> x.load());
        Checks.is("a load that throws keeps what is remembered", 0, x.undo());
    }

    public static void main(String[] args) {
        newObject();
        append();
        clearText();
        errorPosition();
        load();
        Checks.end();
    }
}
