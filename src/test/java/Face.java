import java.nio.file.Files;
import java.nio.file.Path;
import java.util.ArrayList;
import java.util.Arrays;
import java.util.List;

/** The document's face, as its section "The public face" writes it. */
final class Face {
    static final List<String> LINES = Arrays.asList(
        "public WellField();",
        "public int well(int kind, int x, int y, int rest);",
        "public int limit(int well, int v);",
        "public int as(int well, int kind);",
        "public int of(int well, int what);",
        "public int distance(int well, int other);",
        "public int table(int layer, int distance, int age, int v);",
        "public int rainTable(int age, int v);",
        "public int sheet(int s, int kind, int n);",
        "public int put(int s, int i, int v);",
        "public int copy(int s, int from, int t, int to, int n);",
        "public int draws(int well, int month, int s);",
        "public int draw(int well, int month, int v);",
        "public int counts(int well, int month);",
        "public int rain(int month, int v);",
        "public int dry();",
        "public int head(int well, int month);",
        "public int by(int well, int month, int of);",
        "public int rained(int well, int month);",
        "public int most(int well, int month);",
        "public int when(int well, int month);",
        "public int near(int well, int month);",
        "public int low(int month);",
        "public int without(int well, int month, int of, int from);",
        "public int free(int well, int month);",
        "public int licence(int well, int age, int amount);",
        "public int serve(int month);",
        "public int served(int licence, boolean lacks);",
        "public int hold(int well, int month, int head);",
        "public int move(int well, int month, int from);",
        "public int read(int well, int month, int v);",
        "public int differ(int well, int month);",
        "public int fit(int layer, int age);",
        "public long squares();",
        "public int keep();",
        "public int back();",
        "public int told(int what);");

    private Face() {
    }

    /** A line as reflection tells it: "public int well(int,int,int,int)". */
    static String withoutNames(String line) {
        return line.replaceAll("(int|long|boolean) \\w+(?=[,)])", "$1").replace(", ", ",").replace(";", "");
    }

    /** A line as README.md writes it: "well(kind, x, y, rest)"; the constructor: "new WellField()". */
    static String asCalled(String line) {
        String call = line.replaceAll("(int|long|boolean) (\\w+)(?=[,)])", "$2").replace(";", "");
        return call.replaceFirst("public (int |long )", "").replace("public WellField", "new WellField");
    }

    /** The trimmed lines between two that are told, of a file; none if it has them not. */
    static List<String> between(Path file, String first, String last) throws Exception {
        List<String> found = new ArrayList<>();
        boolean within = false;
        for (String line : Files.readAllLines(file)) {
            if (within && line.trim().equals(last)) {
                return found;
            }
            if (within) {
                found.add(line.trim());
            }
            within = within || line.trim().equals(first);
        }
        return new ArrayList<>();
    }
}
