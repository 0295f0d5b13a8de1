import java.util.ArrayList;
import java.util.List;
import java.util.Random;
import java.util.function.ToIntFunction;

/**
 * The terms taken at their word, for small pictures: all ways to fill the cells are gone through,
 * and a set is the smallest one because all others have been looked at. A way to fill the cells is
 * a number whose highest digit is the first cell, so of two the smaller number comes first.
 */
public final class DefinitionTest {
    private static final int NONE = CountedCells.NONE;

    private final int rows;
    private final int columns;
    private final int cells;
    private final int filled;
    private final int pinned;
    private final int[] wanted;
    private final String text;

    private DefinitionTest(int rows, int columns, int filled, int pinned, int[] wanted) {
        this.rows = rows;
        this.columns = columns;
        this.cells = rows * columns;
        this.filled = filled;
        this.pinned = pinned;
        this.wanted = wanted;
        this.text = shown(filled);
    }

    private int at(int r, int c) {
        return 1 << cells - 1 - (columns * r + c);
    }

    private String shown(int way) {
        StringBuilder shown = new StringBuilder("P").append(rows).append(columns);
        for (int bit = 1 << cells - 1; bit > 0; bit >>= 1) {
            shown.append(".#,%".charAt(((way & bit) != 0 ? 1 : 0) + ((pinned & bit) != 0 ? 2 : 0)));
        }
        shown.append(':');
        for (int n : wanted) {
            shown.append(n);
        }
        return shown.toString();
    }

    private CountedCells made() {
        return Checks.of(text);
    }

    /** The cells of a line, in their order. */
    private int[] cellsOf(int l) {
        int[] ofLine = new int[l < rows ? columns : rows];
        for (int i = 0; i < ofLine.length; i++) {
            ofLine[i] = l < rows ? at(l, i) : at(i, l - rows);
        }
        return ofLine;
    }

    private int count(int way, int l) {
        int count = 0;
        for (int bit : cellsOf(l)) {
            count += (way & bit) != 0 ? 1 : 0;
        }
        return count;
    }

    // ---- fitting pictures

    private boolean fits(int way) {
        if ((way & pinned) != (filled & pinned)) {
            return false;
        }
        for (int l = 0; l < wanted.length; l++) {
            if (count(way, l) != wanted[l]) {
                return false;
            }
        }
        return true;
    }

    private List<Integer> fitting() {
        List<Integer> fitting = new ArrayList<>();
        for (int way = 0; way < 1 << cells; way++) {
            if (fits(way)) {
                fitting.add(way);
            }
        }
        return fitting;
    }

    private void leadsTo(String name, Integer due, ToIntFunction<CountedCells> call) {
        CountedCells x = made();
        if (due == null) {
            Checks.failsWith(name + " of " + text, Checks.STATE, () -> call.applyAsInt(x));
            return;
        }
        Checks.is(name + " of " + text, Integer.bitCount(due ^ filled), call.applyAsInt(x));
        Checks.is(name + " of " + text + " shown", shown(due), Checks.show(x));
    }

    private void fills(List<Integer> fitting) {
        boolean none = fitting.isEmpty();
        leadsTo("solve(0)", none ? null : fitting.get(0), x -> x.solve(0));
        leadsTo("solve(1)", none ? null : fitting.get(fitting.size() - 1), x -> x.solve(1));
        Integer behind = null;
        for (int way : fitting) {
            behind = behind == null && way > filled ? Integer.valueOf(way) : behind;
        }
        leadsTo("next", behind, x -> x.next());
    }

    private void looks(List<Integer> fitting) {
        CountedCells x = made();
        int many = Math.min(100, fitting.size());
        Checks.is("howMany of " + text, many, x.howMany());
        int best = NONE;
        int most = -1;
        int[] sure = {0, 0};
        for (int i = 0; i < cells; i++) {
            int bit = 1 << cells - 1 - i;
            int full = (int) fitting.stream().filter(way -> (way & bit) != 0).count();
            int empty = fitting.size() - full;
            boolean isSure = !fitting.isEmpty() && (full == 0 || empty == 0);
            sure[full > 0 ? 1 : 0] += isSure ? 1 : 0;
            Checks.is("cell " + i + " of " + text + " is sure", isSure ? 1 : 0,
                x.cell(i / columns, i % columns, 4));
            if (Math.min(full, empty) > most) {
                most = Math.min(full, empty);
                best = 10 * (i / columns) + i % columns;
            }
        }
        Checks.is("sure(false) of " + text, sure[0], x.sure(false));
        Checks.is("sure(true) of " + text, sure[1], x.sure(true));
        Checks.is("split of " + text, many < 2 || many == 100 ? NONE : best, x.split());
        if (many == 0 || many == 100) {
            Checks.failsWith("nearest of " + text, Checks.STATE, () -> x.nearest());
        } else {
            Checks.is("nearest of " + text, fitting.stream()
                .mapToInt(way -> Integer.bitCount(way ^ filled)).min().getAsInt(), x.nearest());
        }
    }

    private void whyNot() {
        CountedCells x = made();
        for (int l = 0; l < wanted.length; l++) {
            boolean enough = false;
            boolean few = false;
            for (int way = 0; way < 1 << cells; way++) {
                if ((way & pinned) == (filled & pinned)) {
                    enough |= count(way, l) >= wanted[l];
                    few |= count(way, l) <= wanted[l];
                }
            }
            int due = count(filled, l) == wanted[l] ? 0 : !enough ? 1 : !few ? 2 : 3;
            Checks.is("whyNot(" + l + ") of " + text, due, x.whyNot(l));
        }
    }

    private void fittingPictures() {
        List<Integer> fitting = fitting();
        fills(fitting);
        looks(fitting);
        whyNot();
    }

    // ---- pieces and hulls

    private boolean isHull(int set) {
        for (int l = 0; l < rows + columns; l++) {
            boolean begun = false;
            boolean gap = false;
            for (int bit : cellsOf(l)) {
                boolean in = (set & bit) != 0;
                if (in && gap) {
                    return false;
                }
                gap = begun && !in;
                begun |= in;
            }
        }
        return (set & filled) == filled;
    }

    private int smallestHull() {
        int smallest = (1 << cells) - 1;
        for (int set = 0; set < 1 << cells; set++) {
            if (Integer.bitCount(set) < Integer.bitCount(smallest) && isHull(set)) {
                smallest = set;
            }
        }
        return smallest;
    }

    /** The number of the first cell of each cell's piece, -1 for empty ones. */
    private int[] heads() {
        int[] heads = new int[cells];
        for (int i = 0; i < cells; i++) {
            heads[i] = (filled & 1 << cells - 1 - i) != 0 ? i : -1;
        }
        for (int turn = 0; turn < cells; turn++) {
            for (int i = 0; i < cells; i++) {
                for (int k = 0; k < cells; k++) {
                    if (heads[i] >= 0 && heads[k] >= 0 && sides(i, k) == 1) {
                        heads[i] = Math.min(heads[i], heads[k]);
                    }
                }
            }
        }
        return heads;
    }

    /** How many steps from side to side are between two cells. */
    private int sides(int i, int k) {
        return Math.abs(i / columns - k / columns) + Math.abs(i % columns - k % columns);
    }

    private int outline(int[] heads, int head) {
        int outline = 0;
        for (int i = 0; i < cells; i++) {
            if (heads[i] < 0 || head >= 0 && heads[i] != head) {
                continue;
            }
            outline += 4;
            for (int k = 0; k < cells; k++) {
                outline -= heads[k] >= 0 && sides(i, k) == 1 ? 1 : 0;
            }
        }
        return outline;
    }

    private void piecesAndHull() {
        CountedCells x = made();
        int hull = smallestHull();
        int[] heads = heads();
        int pieces = 0;
        int[] numbers = new int[cells];
        for (int i = 0; i < cells; i++) {
            numbers[i] = heads[i] < 0 ? NONE : heads[i] == i ? pieces++ : numbers[heads[i]];
            Checks.is("piece of cell " + i + " of " + text, numbers[i],
                x.cell(i / columns, i % columns, 2));
            Checks.is("cell " + i + " of " + text + " is in the hull",
                (hull & 1 << cells - 1 - i) != 0 ? 1 : 0, x.cell(i / columns, i % columns, 3));
            if (heads[i] == i) {
                Checks.is("outline of a piece of " + text, outline(heads, i),
                    x.piece(numbers[i], 1));
                Checks.is("first cell of a piece of " + text, 10 * (i / columns) + i % columns,
                    x.piece(numbers[i], 4));
            }
        }
        Checks.is("pieces of " + text, pieces, x.about(7));
        Checks.is("outline of " + text, outline(heads, -1), x.about(8));
        Checks.is("hull of " + text, Integer.bitCount(hull), x.about(9));
    }

    // ---- which pictures

    private static int[] digits(int number, int size, int many) {
        int[] digits = new int[many];
        int rest = number;
        for (int i = many - 1; i >= 0; i--) {
            digits[i] = rest % size;
            rest /= size;
        }
        return digits;
    }

    private static int power(int size, int many) {
        int power = 1;
        for (int i = 0; i < many; i++) {
            power *= size;
        }
        return power;
    }

    /** All pictures with all pins and all wanted counts up to one more than can be. */
    private static void all(int rows, int columns) {
        int size = Math.max(rows, columns) + 2;
        for (int number = 0; number < power(size, rows + columns); number++) {
            int[] wanted = digits(number, size, rows + columns);
            for (int filled = 0; filled < 1 << rows * columns; filled++) {
                for (int pinned = 0; pinned < 1 << rows * columns; pinned++) {
                    new DefinitionTest(rows, columns, filled, pinned, wanted).fittingPictures();
                }
            }
        }
    }

    /** Pictures for which often some others fit: the wanted counts are those of another one. */
    private static void some(int rows, int columns, int many) {
        Random random = new Random(10 * rows + columns);
        int ways = 1 << rows * columns;
        for (int i = 0; i < many; i++) {
            int filled = random.nextInt(ways);
            int pinned = random.nextInt(ways) & random.nextInt(ways) & random.nextInt(ways);
            int other = random.nextInt(ways) & ~pinned | filled & pinned;
            int[] wanted = new int[rows + columns];
            DefinitionTest counts = new DefinitionTest(rows, columns, other, 0, wanted);
            for (int l = 0; l < wanted.length; l++) {
                wanted[l] = counts.count(other, l);
            }
            if (i % 8 == 0) {
                wanted[random.nextInt(wanted.length)] = random.nextInt(7);
            }
            new DefinitionTest(rows, columns, filled, pinned, wanted).fittingPictures();
        }
    }

    private static void allShapes(int rows, int columns) {
        for (int filled = 0; filled < 1 << rows * columns; filled++) {
            new DefinitionTest(rows, columns, filled, 0, new int[rows + columns]).piecesAndHull();
        }
    }

    public static void main(String[] args) {
        all(1, 1);
        all(1, 2);
        all(2, 1);
        all(2, 2);
        some(1, 6, 200);
        some(6, 1, 200);
        some(2, 5, 300);
        some(3, 3, 600);
        some(3, 4, 400);
        some(4, 3, 400);
        some(6, 2, 300);
        allShapes(1, 6);
        allShapes(6, 1);
        allShapes(3, 3);
        allShapes(2, 4);
        allShapes(5, 2);
        Checks.end();
    }
}
