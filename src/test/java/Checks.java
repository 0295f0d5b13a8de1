import java.util.function.Consumer;
import java.util.function.Supplier;

/** What the tests share: they compare answers and exceptions, and end with 1 if one was wrong. */
final class Checks {
    static final Class<?> INDEX = IndexOutOfBoundsException.class;
    static final Class<?> ARGUMENT = IllegalArgumentException.class;
    static final Class<?> STATE = IllegalStateException.class;

    private static int made = 0;
    private static int wrong = 0;
    private static int sentences = 0;
    private static String held = "";

    interface Call {
        void run();
    }

    private Checks() {
    }

    /** Tells which sentence of a promise the checks that come next hold. */
    static void sentence(int promise, String words) {
        sentences++;
        held = "promise " + promise + ", \"" + words + "\": ";
    }

    /** The same for a sentence of the document that stands outside the promises. */
    static void term(String words) {
        sentences++;
        held = "terms, \"" + words + "\": ";
    }

    static void is(String what, long due, long got) {
        is(what, Long.toString(due), Long.toString(got));
    }

    static void is(String what, boolean due, boolean got) {
        is(what, Boolean.toString(due), Boolean.toString(got));
    }

    static void is(String what, String due, String got) {
        made++;
        if (!due.equals(got)) {
            wrong++;
            System.out.println(held + what + ": " + got + ", due is " + due);
        }
    }

    static void failsWith(String what, Class<?> due, Call call) {
        Class<?> thrown = null;
        try {
            call.run();
        } catch (RuntimeException e) {
            thrown = e.getClass();
        }
        is(what + " throws", String.valueOf(due), String.valueOf(thrown));
    }

    /** The call throws what is due and leaves an object like one for which it was not called. */
    static void refuses(String what, Class<?> due, Supplier<CountedCells> maker,
            Consumer<CountedCells> call) {
        CountedCells x = maker.get();
        failsWith(what, due, () -> call.accept(x));
        is(what + " changes nothing", whole(maker.get()), whole(x));
    }

    static void refuses(String what, Class<?> due, String picture, Consumer<CountedCells> call) {
        refuses(what + " of " + picture, due, () -> rich(picture), call);
    }

    /** The call throws nothing and leaves an object like one for which it was not called. */
    static void keeps(String what, String picture, Consumer<CountedCells> call) {
        CountedCells x = rich(picture);
        call.accept(x);
        is(what + " changes nothing of " + picture, whole(rich(picture)), whole(x));
    }

    /** The numbers next to a range on both sides, and the farthest ones. */
    static int[] outside(int least, int most) {
        return new int[] {least - 1, most + 1, Integer.MIN_VALUE, Integer.MAX_VALUE};
    }

    /** An object with this text loaded. */
    static CountedCells of(String text) {
        CountedCells x = new CountedCells();
        write(x, text);
        x.load();
        return x;
    }

    static void write(CountedCells x, String text) {
        x.clearText();
        for (int i = 0; i < text.length(); i++) {
            x.append(text.charAt(i));
        }
    }

    /**
     * An object with this picture and all that a call could change besides: 14 remembered states,
     * two others in the save slots, and a text that is another picture.
     */
    static CountedCells rich(String picture) {
        CountedCells x = of(picture);
        int wanted = x.line(0, 1);
        for (int i = 1; i < 14; i++) {
            x.want(0, (wanted + i) % 7);
            if (i == 3 || i == 5) {
                x.save(i / 5);
            }
        }
        x.want(0, wanted);
        write(x, "P12#,:345");
        return x;
    }

    /** The whole picture as a text that load would read. */
    static String show(CountedCells x) {
        int rows = x.about(0);
        int columns = x.about(1);
        StringBuilder shown = new StringBuilder("P").append(rows).append(columns);
        for (int r = 0; r < rows; r++) {
            for (int c = 0; c < columns; c++) {
                shown.append(".#,%".charAt(x.cell(r, c, 0) + 2 * x.cell(r, c, 1)));
            }
        }
        shown.append(':');
        for (int l = 0; l < rows + columns; l++) {
            shown.append(x.line(l, 1));
        }
        return shown.toString();
    }

    /**
     * All that can be seen of an object: picture, remembered states, save slots, text. The object
     * is used up by it; up to 5 rows and 5 columns of a rich one are seen within 512 calls.
     */
    static String whole(CountedCells x) {
        StringBuilder all = new StringBuilder(show(x)).append(" remembered");
        int undone = 0;
        while (undone < 20 && succeeds(() -> x.undo())) {
            undone++;
            all.append(' ');
            for (int what = 0; what < 6; what++) {
                all.append(x.about(what)).append('/');
            }
        }
        all.append(" oldest ").append(show(x));
        for (int slot = 0; slot < 2; slot++) {
            int present = slot;
            boolean used = succeeds(() -> x.restore(present));
            all.append(" slot ").append(used ? show(x) : "empty");
        }
        all.append(" text ").append(x.errorPosition());
        all.append(' ').append(succeeds(() -> x.load()) ? show(x) : "no picture");
        return all.append(' ').append(x.clearText()).toString();
    }

    private static boolean succeeds(Call call) {
        try {
            call.run();
        } catch (IllegalStateException e) {
            return false;
        }
        return true;
    }

    static void end() {
        System.out.println(made + " checks" + (sentences == 0 ? "" : " of " + sentences
                + " sentences") + ", " + wrong + " wrong");
        if (wrong != 0) {
            System.exit(1);
        }
    }
}
