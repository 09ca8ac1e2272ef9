import java.nio.file.Files;
import java.nio.file.Path;
import java.util.ArrayList;
import java.util.Arrays;
import java.util.List;

/** README.md tells what is so: its example, its findings, its calls. Run from the project's root. */
final class ReadmeTest {
    private static final Path README = Path.of("README.md");
    private static final Path ITSELF = Path.of("src/test/java/ReadmeTest.java");

    public static void main(String[] args) throws Exception {
        exampleIsSo();
        exampleStandsThere();
        callsInOrder();
        findings();
        Check.finish();
    }

    private static void exampleIsSo() {
        // the example begins
        WellField field = new WellField();
        int well = field.well(0, 3, 4, 5000);
        int deep = field.well(1, 5, 4, 8000);
        int was = field.limit(well, 1000);
        int drew = field.draw(well, 6, 12);
        int head = field.head(well, 6);
        int fall = field.by(deep, 6, well);
        int free = field.free(well, 0);
        int none = field.when(well, 0);
        int beyond = field.head(2, 0);
        int findings = field.told(3);
        // the example ends
        int[] answers = {well, deep, was, drew, head, fall, free, none, beyond, findings};
        int[] due = {0, 1, -100000, 0, 3800, 480, 28, Check.NONE, Check.BEYOND, 2};
        Check.due("answers of the example", Arrays.equals(answers, due) ? 1 : 0, 1);
    }

    /** The page's example is the one above, and tells behind each call what it answers there. */
    private static void exampleStandsThere() throws Exception {
        List<String> run = Face.between(ITSELF, "// the example begins", "// the example ends");
        List<String> told = Face.between(README, "```java", "```");
        Check.due("lines of the example", told.size(), run.size());
        String[] due = {"", "0", "1", "-100000", "0", "3800", "480", "28", "" + Check.NONE, "" + Check.BEYOND, "2"};
        for (int i = 0; i < told.size() && i < run.size() && i < due.length; i++) {
            String[] parts = told.get(i).split(" *// ", 2);
            Check.due(parts[0] + " stands in the example", parts[0].equals(run.get(i)) ? 1 : 0, 1);
            String answer = parts.length == 2 ? parts[1].split(":")[0] : "";
            Check.due(parts[0] + " is told to answer " + answer, answer.equals(due[i]) ? 1 : 0, 1);
        }
    }

    private static void callsInOrder() throws Exception {
        List<String> told = new ArrayList<>();
        for (String line : Files.readAllLines(README)) {
            if (line.startsWith("| `")) {
                told.add(line.substring(3, line.indexOf('`', 3)));
            }
        }
        Check.due("calls that the page tells", told.size(), Face.LINES.size());
        for (int i = 0; i < told.size() && i < Face.LINES.size(); i++) {
            String due = Face.asCalled(Face.LINES.get(i));
            Check.due("call " + i + " is " + told.get(i), told.get(i).equals(due) ? 1 : 0, 1);
        }
    }

    private static void findings() throws Exception {
        String page = Files.readString(README);
        String[] names = {"BEYOND", "MISSING", "SIZE", "KIND", "FULL", "NONE", "NO_NUMBER"};
        for (int i = 0; i < names.length; i++) {
            String row = "| " + (-1000000001 - i) + " | " + names[i] + " |";
            Check.due("the page has " + row, page.contains(row) ? 1 : 0, 1);
        }
    }
}
