/** Promises 29 and 30, sentence by sentence: edges and refused calls of the save slots. */
public final class SlotEdgeTest {
    private static final String PICTURE = "P23#.,%#.:21435";
    private static final String PINNED = "P66" + "%".repeat(36) + ":" + "6".repeat(12);

    private static void saveReturns() {
        Checks.sentence(29, "Returns the number of filled cells.");
        Checks.is("of none", 0, Checks.of("P11,").save(0));
        Checks.is("of one", 1, Checks.of("P11%").save(1));
        Checks.is("of all", 36, Checks.of(PINNED).save(1));
        Checks.is("of a new object", 0, new CountedCells().save(0));
    }

    private static void saveStores() {
        Checks.sentence(29, "Stores the present state in a save slot.");
        for (int slot = 0; slot < 2; slot++) {
            CountedCells x = Checks.of(PICTURE);
            x.save(slot);
            x.resize(1, 1);
            x.resize(6, 6);
            x.pin(5, 5, true);
            x.want(11, 6);
            x.restore(slot);
            Checks.is("all as it was saved", PICTURE, Checks.show(x));
            x.fill(0, 1, true);
            x.save(slot);
            x.fill(0, 1, false);
            x.restore(slot);
            Checks.is("saved once more", "P23##,%#.:21435", Checks.show(x));
        }
    }

    private static void twoSlots() {
        Checks.sentence(29, "slot: 0 or 1");
        CountedCells x = Checks.of("P11.:00");
        x.save(0);
        x.want(0, 1);
        x.save(1);
        x.want(0, 2);
        x.restore(0);
        Checks.is("slot 0", "P11.:00", Checks.show(x));
        x.restore(1);
        Checks.is("slot 1", "P11.:10", Checks.show(x));
    }

    private static void saveIsNoAction() {
        Checks.term("Each call of one of them that does not throw an exception is an action");
        CountedCells x = Checks.of("P11.:00");
        x.want(0, 1);
        x.save(0);
        x.save(1);
        Checks.is("only want is remembered", 0, x.undo());
        Checks.is("undone", "P11.:00", Checks.show(x));
        Checks.failsWith("undo", Checks.STATE, () -> x.undo());
        Checks.is("the text is as long as before", 7, x.clearText());
    }

    private static void saveRefused() {
        Checks.sentence(29, "IndexOutOfBoundsException if there is no such save slot");
        for (int slot : Checks.outside(0, 1)) {
            Checks.refuses("save(" + slot + ")", Checks.INDEX, PICTURE, x -> x.save(slot));
            Checks.refuses("save(" + slot + ") of a new object", Checks.INDEX, CountedCells::new,
                x -> x.save(slot));
        }
    }

    private static void restoreReturns() {
        Checks.sentence(30, "Returns the number of filled cells then.");
        for (String text : new String[] {"P11,", "P11%", PICTURE, PINNED}) {
            CountedCells x = Checks.of(text);
            int filled = x.save(1);
            x.resize(1, 1);
            x.pin(0, 0, false);
            x.fill(0, 0, filled == 0);
            Checks.is("restore of " + text, filled, x.restore(1));
        }
    }

    private static void restoreForgets() {
        Checks.sentence(30, "Replaces the state by the one in a save slot, and forgets all "
                + "remembered states.");
        CountedCells x = Checks.rich(PICTURE);
        x.restore(0);
        Checks.is("shown", "P23#.,%#.:51435", Checks.show(x));
        Checks.failsWith("undo", Checks.STATE, () -> x.undo());
        Checks.term("load and restore are not actions.");
        x.want(0, 0);
        Checks.is("only want is remembered", 0, x.undo());
        Checks.is("undone", "P23#.,%#.:51435", Checks.show(x));
        Checks.is("the text stays", 9, x.clearText());
    }

    private static void restoreKeepsSlot() {
        Checks.sentence(30, "The save slot keeps it.");
        CountedCells x = Checks.of(PICTURE);
        x.save(0);
        for (int i = 0; i < 3; i++) {
            x.turn();
            x.fill(0, 1, i == 0);
            x.want(0, 6);
            x.wantAll();
            x.restore(0);
            Checks.is("restored " + i, PICTURE, Checks.show(x));
        }
    }

    private static void restoreRefused() {
        Checks.sentence(30, "IndexOutOfBoundsException if there is no such save slot");
        for (int slot : Checks.outside(0, 1)) {
            Checks.refuses("restore(" + slot + ")", Checks.INDEX, PICTURE, x -> x.restore(slot));
            Checks.refuses("restore(" + slot + ") of a new object", Checks.INDEX,
                CountedCells::new, x -> x.restore(slot));
        }
        Checks.sentence(30, "IllegalStateException if nothing has been saved in it since the last "
                + "load");
        for (int slot = 0; slot < 2; slot++) {
            int empty = slot;
            Checks.refuses("restore of a new object", Checks.STATE, CountedCells::new,
                x -> x.restore(empty));
            Checks.refuses("restore behind a save in the other slot", Checks.STATE, () -> {
                CountedCells x = Checks.of(PICTURE);
                x.want(0, 0);
                x.save(1 - empty);
                x.want(0, 1);
                return x;
            }, x -> x.restore(empty));
            Checks.refuses("restore behind load", Checks.STATE, () -> {
                CountedCells x = Checks.rich(PICTURE);
                x.load();
                x.want(0, 0);
                x.save(1 - empty);
                return x;
            }, x -> x.restore(empty));
        }
    }

    private static void savedSinceLoad() {
        Checks.sentence(30, "if nothing has been saved in it since the last load");
        CountedCells x = Checks.rich(PICTURE);
        x.load();
        x.save(0);
        x.fill(0, 0, false);
        Checks.is("saved behind load", 1, x.restore(0));
        Checks.is("shown", "P12#,:345", Checks.show(x));
        x.append('x');
        Checks.failsWith("a load that throws", Checks.STATE, () -> x.load());
        Checks.is("is none", 1, x.restore(0));
    }

    public static void main(String[] args) {
        saveReturns();
        saveStores();
        twoSlots();
        saveIsNoAction();
        saveRefused();
        restoreReturns();
        restoreForgets();
        restoreKeepsSlot();
        restoreRefused();
        savedSinceLoad();
        Checks.end();
    }
}
