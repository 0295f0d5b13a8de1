import java.io.IOException;
import java.nio.file.Files;
import java.nio.file.Path;
import java.util.List;

/** The example of README.md answers as README.md says, line by line. */
public final class ReadmeTest {
    private static List<String> lines;
    private static int at = 0;

    /** The next line that begins with this call, and what stands behind it. */
    private static String behind(String call) {
        while (at < lines.size()) {
            String line = lines.get(at++).strip();
            if (line.startsWith(call)) {
                return line.substring(call.length()).strip();
            }
        }
        return "no such line";
    }

    private static void told(String call, int answer) {
        String told = behind(call);
        Checks.is(call + " " + told, true, told.matches("// .*\\b" + answer + "\\b.*"));
    }

    public static void main(String[] args) throws IOException {
        lines = Files.readAllLines(Path.of("README.md"));
        CountedCells x = new CountedCells();
        told("CountedCells x = new CountedCells();", x.about(0));
        Checks.is("for", "", behind("for (int l = 0; l < 6; l++) {"));
        for (int l = 0; l < 6; l++) {
            x.want(l, 1);
        }
        Checks.is("want", "// lines 0 to 2 are the rows, 3 to 5 the columns",
            behind("x.want(l, 1);"));
        told("x.howMany();", x.howMany());
        x.pin(0, 0, true);
        Checks.is("pin", "// the first cell stays empty", behind("x.pin(0, 0, true);"));
        told("x.howMany();", x.howMany());
        told("x.solve(0);", x.solve(0));
        told("x.next();", x.next());
        told("x.undo();", x.undo());
        Checks.end();
    }
}
