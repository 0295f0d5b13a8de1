import java.util.Random;

/** Long runs of calls, drawn from fixed seeds, answered by the class and by the Model alike. */
public final class FuzzTest {
    private static final int RUNS = 400;
    private static final int CALLS = 512;

    private final Random random;
    private final CountedCells mine = new CountedCells();
    private final Model due = new Model();
    private final long seed;
    private int calls = 0;
    private int pending = 0;
    private String pendingText = "";

    private FuzzTest(long seed) {
        this.seed = seed;
        random = new Random(seed);
    }

    private interface Answer {
        long get();
    }

    private static String answerOf(Answer answer) {
        try {
            return Long.toString(answer.get());
        } catch (RuntimeException e) {
            return e.getClass().getSimpleName();
        }
    }

    /** False if the answers differ, or if the document promises nothing about one call more. */
    private boolean same(String name, Answer mineAnswer, Answer dueAnswer) {
        if (calls == CALLS) {
            return false;
        }
        calls++;
        String got = answerOf(mineAnswer);
        String want = answerOf(dueAnswer);
        Checks.is("run " + seed + ", call " + calls + ": " + name, want, got);
        return want.equals(got);
    }

    private int below(int n) {
        return random.nextInt(n);
    }

    /** Mostly 0 to n - 1, sometimes a little or far beyond. */
    private int about(int n) {
        int die = below(60);
        if (die == 0) {
            return -1 - below(2);
        }
        if (die == 1) {
            return n + below(3);
        }
        if (die == 2) {
            return random.nextBoolean() ? Integer.MIN_VALUE : Integer.MAX_VALUE;
        }
        return below(n);
    }

    private int row() {
        return about(due.about(0));
    }

    private int column() {
        return about(due.about(1));
    }

    private int line() {
        return about(due.about(0) + due.about(1));
    }

    private static int bit(boolean is) {
        return is ? 1 : 0;
    }

    private boolean step(int n) {
        if (pending < pendingText.length()) {
            int c = pendingText.charAt(pending++);
            return same("append(" + c + ")", () -> mine.append(c), () -> due.append(c))
                && (pending < pendingText.length() || endText());
        }
        int die = below(100);
        if (die < 45) {
            return act(die);
        }
        if (die < 72) {
            return look(die);
        }
        return wonder(die, n);
    }

    private boolean endText() {
        return same("errorPosition()", mine::errorPosition, due::errorPosition)
            && same("load()", mine::load, due::load);
    }

    private boolean act(int die) {
        int r = row();
        int c = column();
        boolean is = random.nextBoolean();
        if (die < 13) {
            return same("fill(" + r + "," + c + "," + is + ")",
                () -> bit(mine.fill(r, c, is)), () -> due.fill(r, c, is));
        }
        if (die < 18) {
            boolean pinned = below(3) != 0;
            return same("pin(" + r + "," + c + "," + pinned + ")",
                () -> bit(mine.pin(r, c, pinned)), () -> due.pin(r, c, pinned));
        }
        if (die < 21) {
            int l = line();
            int n = about(7);
            return same("want(" + l + "," + n + ")", () -> mine.want(l, n), () -> due.want(l, n));
        }
        if (die < 25) {
            return same("wantAll()", mine::wantAll, due::wantAll);
        }
        if (die < 30) {
            return exchange();
        }
        if (die < 34) {
            int which = about(2);
            return same("solve(" + which + ")", () -> mine.solve(which), () -> due.solve(which));
        }
        if (die < 38) {
            return same("next()", mine::next, due::next);
        }
        if (die < 40) {
            return same("turn()", mine::turn, due::turn);
        }
        if (die == 40) {
            int rows = below(10) == 0 ? about(7) : 1 + below(6);
            int columns = below(10) == 0 ? about(7) : 1 + below(6);
            return same("resize(" + rows + "," + columns + ")",
                () -> mine.resize(rows, columns), () -> due.resize(rows, columns));
        }
        return same("undo()", mine::undo, due::undo);
    }

    private boolean exchange() {
        int many = due.about(10);
        int code = many == 0 || below(3) == 0 ? -1 : due.exchangeAt(below(many));
        int r = code < 0 ? row() : code / 1000;
        int s = code < 0 ? row() : code / 100 % 10;
        int c = code < 0 ? column() : code / 10 % 10;
        int d = code < 0 ? column() : code % 10;
        return same("exchange(" + r + "," + s + "," + c + "," + d + ")",
            () -> mine.exchange(r, s, c, d), () -> due.exchange(r, s, c, d));
    }

    private boolean look(int die) {
        if (die < 53) {
            int what = about(11);
            return same("about(" + what + ")", () -> mine.about(what), () -> due.about(what));
        }
        if (die < 57) {
            int l = line();
            int what = about(5);
            return same("line(" + l + "," + what + ")",
                () -> mine.line(l, what), () -> due.line(l, what));
        }
        if (die < 62) {
            int r = row();
            int c = column();
            int what = about(5);
            return same("cell(" + r + "," + c + "," + what + ")",
                () -> mine.cell(r, c, what), () -> due.cell(r, c, what));
        }
        if (die < 66) {
            int p = about(1 + due.about(7));
            int what = about(5);
            return same("piece(" + p + "," + what + ")",
                () -> mine.piece(p, what), () -> due.piece(p, what));
        }
        if (die < 69) {
            int i = about(1 + due.about(10));
            return same("exchangeAt(" + i + ")", () -> mine.exchangeAt(i), () -> due.exchangeAt(i));
        }
        int l = line();
        return same("whyNot(" + l + ")", () -> mine.whyNot(l), () -> due.whyNot(l));
    }

    private boolean wonder(int die, int n) {
        if (die < 76) {
            return same("howMany()", mine::howMany, due::howMany);
        }
        if (die < 79) {
            boolean is = random.nextBoolean();
            return same("sure(" + is + ")", () -> mine.sure(is), () -> due.sure(is));
        }
        if (die < 82) {
            return same("split()", mine::split, due::split);
        }
        if (die < 85) {
            return same("nearest()", mine::nearest, due::nearest);
        }
        if (die < 87) {
            return same("bestExchange()", mine::bestExchange, due::bestExchange);
        }
        if (die < 92) {
            return script();
        }
        if (die < 94) {
            long seed = random.nextLong();
            int m = below(3) == 0 ? about(101) : 1 + below(99);
            return same("simulate(" + seed + "," + m + ")",
                () -> mine.simulate(seed, m), () -> due.simulate(seed, m));
        }
        int slot = about(2);
        if (die < 96) {
            return same("save(" + slot + ")", () -> mine.save(slot), () -> due.save(slot));
        }
        if (die < 98) {
            return same("restore(" + slot + ")", () -> mine.restore(slot), () -> due.restore(slot));
        }
        return n % 3 == 0 ? endText() : beginText();
    }

    private boolean beginText() {
        pendingText = drawText();
        pending = 0;
        return below(10) == 0 || same("clearText()", mine::clearText, due::clearText);
    }

    private String drawText() {
        int rows = 1 + below(6);
        int columns = 1 + below(6);
        StringBuilder text = new StringBuilder("P").append(rows).append(columns);
        int pins = below(3) == 0 ? 4 : 2;
        for (int i = 0; i < rows * columns; i++) {
            text.append(".#,%".charAt(below(3) == 0 ? below(pins) : below(2)));
        }
        if (random.nextBoolean()) {
            text.append(':');
            int most = below(2) == 0 ? 7 : 4;
            for (int i = 0; i < rows + columns; i++) {
                text.append(below(most));
            }
        }
        if (below(4) == 0) {
            text.setCharAt(below(text.length()), "P0167.#,%: \u00ff".charAt(below(12)));
        }
        if (below(8) == 0) {
            text.setLength(below(text.length()));
        }
        if (below(8) == 0) {
            text.append(".:6P".charAt(below(4)));
        }
        return text.toString();
    }

    private boolean script() {
        int n = below(12) == 0 ? about(6) : 1 + below(4);
        long script = 0;
        for (int i = 0; i < Math.min(Math.max(n, 1), 4); i++) {
            script = 10000 * script + command();
        }
        if (below(12) == 0) {
            script = below(2) == 0 ? random.nextLong() : script * 10 + below(10);
        }
        long drawn = script;
        return same("runScript(" + n + "," + drawn + ")",
            () -> mine.runScript(n, drawn), () -> due.runScript(n, drawn));
    }

    private int command() {
        int r = below(due.about(0));
        int c = below(due.about(1));
        switch (below(12)) {
            case 0: return 1000 + 100 * r + 10 * c + below(2);
            case 1: return 2000 + 100 * r + 10 * c + below(2);
            case 2: return 3000 + 10 * below(due.about(0) + due.about(1)) + below(7);
            case 3: return 4000 + below(2);
            case 4: return 5000;
            case 5: return 6000;
            case 6: return 7000 + below(10);
            case 7: return 8000 + below(60);
            case 8: return 9000 + below(8);
            case 9: return 1000 * below(10) + below(100);
            default: return below(10) == 0 ? below(10000) : 1000 + 100 * r + 10 * c + below(2);
        }
    }

    public static void main(String[] args) {
        for (int seed = 1; seed <= RUNS; seed++) {
            FuzzTest run = new FuzzTest(seed);
            boolean goesOn = true;
            for (int n = 0; goesOn; n++) {
                goesOn = run.step(n);
            }
        }
        Checks.end();
    }
}
