/** What the tests share: they compare answers and exceptions, and end with 1 if one was wrong. */
final class Checks {
    static final Class<?> INDEX = IndexOutOfBoundsException.class;
    static final Class<?> ARGUMENT = IllegalArgumentException.class;
    static final Class<?> STATE = IllegalStateException.class;

    private static int made = 0;
    private static int wrong = 0;

    interface Call {
        void run();
    }

    private Checks() {
    }

    static void is(String what, long due, long got) {
        made++;
        if (due != got) {
            wrong++;
            System.out.println(what + ": " + got + ", due is " + due);
        }
    }

    static void is(String what, boolean due, boolean got) {
        is(what, due ? 1 : 0, got ? 1 : 0);
    }

    static void is(String what, String due, String got) {
        made++;
        if (!due.equals(got)) {
            wrong++;
            System.out.println(what + ": " + got + ", due is " + due);
        }
    }

    static void failsWith(String what, Class<?> due, Call call) {
        made++;
        Class<?> thrown = null;
        try {
            call.run();
        } catch (RuntimeException e) {
            thrown = e.getClass();
        }
        if (thrown != due) {
            wrong++;
            System.out.println(what + ": threw " + thrown + ", due is " + due);
        }
    }

    /** The call throws what is due, and neither the picture nor what undo takes back changes. */
    static void failsUnchanged(String what, Class<?> due, CountedCells x, Call call) {
        String before = show(x);
        int filled = x.about(2);
        x.pin(0, 0, x.cell(0, 0, 1) == 1);
        failsWith(what, due, call);
        is(what + " changes nothing", before, show(x));
        x.undo();
        is(what + " changes nothing, behind undo", before, show(x));
        is(what + " changes no cell", filled, x.about(2));
    }

    /** An object with this text loaded. */
    static CountedCells of(String text) {
        CountedCells x = new CountedCells();
        write(x, text);
        x.load();
        return x;
    }

    static void write(CountedCells x, String text) {
        x.clearText();
        for (int i = 0; i < text.length(); i++) {
            x.append(text.charAt(i));
        }
    }

    /** The whole picture as a text that load would read. */
    static String show(CountedCells x) {
        StringBuilder shown = new StringBuilder("P");
        shown.append(x.about(0)).append(x.about(1));
        for (int r = 0; r < x.about(0); r++) {
            for (int c = 0; c < x.about(1); c++) {
                shown.append(".#,%".charAt(x.cell(r, c, 0) + 2 * x.cell(r, c, 1)));
            }
        }
        shown.append(':');
        for (int l = 0; l < x.about(0) + x.about(1); l++) {
            shown.append(x.line(l, 1));
        }
        return shown.toString();
    }

    static void end() {
        System.out.println(made + " checks, " + wrong + " wrong");
        if (wrong != 0) {
            System.exit(1);
        }
    }
}
