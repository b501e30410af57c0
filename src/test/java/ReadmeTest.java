import java.io.IOException;
import java.nio.file.Files;
import java.nio.file.Path;
import java.util.regex.Matcher;
import java.util.regex.Pattern;

/** What README.md shows: its rows are made one after the other, and must answer what stands behind them. */
final class ReadmeTest {
    private static final Checks c = new Checks("ReadmeTest");
    private static final Pattern ROW = Pattern.compile(
            "(?:read\\(rolls, \"(.*)\"\\)|rolls\\.(\\w+\\(.*\\)));\\s+// (-?\\d+|ChantryRolls\\.[A-Z]+)\\b.*");
    private static final int FEWEST_ROWS = 50;

    public static void main(String[] args) throws IOException {
        ChantryRolls rolls = new ChantryRolls();
        int rows = 0;
        for (String line : Files.readAllLines(Path.of("README.md"))) {
            Matcher row = ROW.matcher(line);
            if (row.matches()) {
                rows++;
                String text = row.group(1);
                int got = text == null ? Calls.make(rolls, row.group(2).replace("ChantryRolls.", ""))
                        : Checks.deeds(rolls, text);
                c.due(line, got, answer(row.group(3)));
            } else {
                // A row that is not read as one would not be looked at.
                boolean isRow = line.startsWith("rolls.") || line.startsWith("read(");
                c.due("no row that is not understood: " + line, isRow ? 1 : 0, 0);
            }
        }
        c.due("rows enough", rows >= FEWEST_ROWS ? 1 : 0, 1);
        c.finish();
    }

    private static long answer(String word) {
        switch (word) {
            case "ChantryRolls.STATE":
                return Checks.STATE;
            case "ChantryRolls.NONE":
                return Checks.NONE;
            default:
                return Long.parseLong(word);
        }
    }
}
