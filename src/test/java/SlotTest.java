/** Promises 29 and 30: the save slots. */
public final class SlotTest {
    private static void save() {
        CountedCells x = Checks.of("P23#.,%#.:21435");
        Checks.is("save", 3, x.save(0));
        x.fill(0, 0, false);
        Checks.is("save", 2, x.save(1));
        x.resize(1, 1);
        Checks.is("restore", 3, x.restore(0));
        Checks.is("restore(0): shown", "P23#.,%#.:21435", Checks.show(x));
        Checks.is("restore", 2, x.restore(1));
        Checks.is("restore(1): shown", "P23..,%#.:21435", Checks.show(x));
        x.turn();
        Checks.is("restore: the slot keeps it", 2, x.restore(1));
        Checks.is("restore: the slot keeps it", "P23..,%#.:21435", Checks.show(x));
        x.want(0, 6);
        x.save(1);
        x.want(0, 0);
        x.restore(1);
        Checks.is("save once more", "P23..,%#.:61435", Checks.show(x));
    }

    private static void restore() {
        CountedCells x = new CountedCells();
        Checks.failsWith("restore(0) of nothing", Checks.STATE, () -> x.restore(0));
        x.save(0);
        Checks.failsWith("restore(1) of nothing", Checks.STATE, () -> x.restore(1));
        x.fill(0, 0, true);
        x.fill(0, 1, true);
        Checks.is("save is no action and forgets nothing", 1, x.undo());
        x.fill(0, 2, true);
        Checks.is("restore", 0, x.restore(0));
        Checks.failsWith("restore forgets", Checks.STATE, () -> x.undo());
        x.append('P');
        x.pin(0, 0, true);
        x.restore(0);
        Checks.is("restore leaves the text", 2, x.append('1'));
        x.append('1');
        x.append('#');
        x.load();
        Checks.failsWith("restore behind load", Checks.STATE, () -> x.restore(0));
        x.save(0);
        x.save(1);
        x.fill(0, 0, false);
        Checks.failsWith("restore(2)", Checks.INDEX, () -> x.restore(2));
        Checks.is("a restore that throws forgets nothing", 0, x.undo());
        Checks.is("restore behind a new save", 1, x.restore(1));
    }

    public static void main(String[] args) {
        save();
        restore();
        Checks.end();
    }
}
