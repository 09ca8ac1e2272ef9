import java.lang.reflect.Constructor;
import java.lang.reflect.Field;
import java.lang.reflect.Member;
import java.lang.reflect.Method;
import java.lang.reflect.Modifier;
import java.nio.file.Files;
import java.nio.file.Path;
import java.util.ArrayList;
import java.util.Arrays;
import java.util.List;
import java.util.TreeSet;

/** The rules of LANGUAGE.md that can be seen from outside, and the document's face. Run from the project's root. */
final class RulesTest {
    private static final String SOURCE = "src/main/java/WellField.java";
    private static final String[] FACE = {
        "int well(int, int, int, int)", "int limit(int, int)", "int as(int, int)", "int of(int, int)",
        "int distance(int, int)", "int table(int, int, int, int)", "int rainTable(int, int)",
        "int sheet(int, int, int)", "int put(int, int, int)", "int copy(int, int, int, int, int)",
        "int draws(int, int, int)", "int draw(int, int, int)", "int counts(int, int)", "int rain(int, int)",
        "int dry()", "int head(int, int)", "int by(int, int, int)", "int rained(int, int)", "int most(int, int)",
        "int when(int, int)", "int near(int, int)", "int low(int)", "int without(int, int, int, int)",
        "int free(int, int)", "int licence(int, int, int)", "int serve(int)", "int served(int, boolean)",
        "int hold(int, int, int)", "int move(int, int, int)", "int read(int, int, int)", "int differ(int, int)",
        "int fit(int, int)", "long squares()", "int keep()", "int back()", "int told(int)"};
    private static final String[] FORBIDDEN = {"throw", "throws", "try", "catch", "synchronized", "assert", "import",
        "package", "protected", "Object", "Float", "Double", "Exception", "hashCode", "toString", "System.out",
        "->", "::", "Exact"};

    public static void main(String[] args) throws Exception {
        face();
        classesInside();
        words();
        methodsStayShort();
        Check.finish();
    }

    private static void face() {
        TreeSet<String> due = new TreeSet<>(Arrays.asList(FACE));
        TreeSet<String> open = new TreeSet<>();
        for (Method m : WellField.class.getDeclaredMethods()) {
            if (!Modifier.isPrivate(m.getModifiers())) {
                String types = Arrays.toString(m.getParameterTypes()).replace("[", "(").replace("]", ")");
                open.add(m.getReturnType() + " " + m.getName() + types);
                Check.due(m.getName() + " is public", Modifier.isPublic(m.getModifiers()) ? 1 : 0, 1);
            }
        }
        Check.due("the face " + open + " is " + due, open.equals(due) ? 1 : 0, 1);
        Constructor<?>[] makers = WellField.class.getDeclaredConstructors();
        Check.due("one constructor", makers.length, 1);
        Check.due("without parameters", makers[0].getParameterCount(), 0);
        Check.due("the constructor is public", Modifier.isPublic(makers[0].getModifiers()) ? 1 : 0, 1);
        Check.due("the class is final", Modifier.isFinal(WellField.class.getModifiers()) ? 1 : 0, 1);
        for (Field f : WellField.class.getDeclaredFields()) {
            Check.due(f.getName() + " is private", Modifier.isPrivate(f.getModifiers()) ? 1 : 0, 1);
        }
    }

    private static void classesInside() {
        List<Class<?>> all = new ArrayList<>(Arrays.asList(WellField.class.getDeclaredClasses()));
        Check.due("some twelve classes at most", all.size() <= 12 ? 1 : 0, 1);
        TreeSet<String> open = new TreeSet<>();
        for (Method m : WellField.class.getDeclaredMethods()) {
            if (Modifier.isPublic(m.getModifiers())) {
                open.add(m.getName());
            }
        }
        all.add(WellField.class);
        for (Class<?> c : all) {
            Check.due(c + " is static", c == WellField.class || Modifier.isStatic(c.getModifiers()) ? 1 : 0, 1);
            for (Method m : c.getDeclaredMethods()) {
                boolean twice = Modifier.isPrivate(m.getModifiers()) && open.contains(m.getName());
                Check.due(c + "." + m.getName() + " bears a public name", twice ? 1 : 0, 0);
                Check.due(m.getName() + " takes seven at most", m.getParameterCount() <= 7 ? 1 : 0, 1);
            }
            int fields = 0;
            for (Field f : c.getDeclaredFields()) {
                if (isStatic(f)) {
                    Check.due(f.getName() + " is final", Modifier.isFinal(f.getModifiers()) ? 1 : 0, 1);
                } else {
                    fields++;
                }
            }
            Check.due(c + " has some twenty fields at most", fields <= 20 ? 1 : 0, 1);
        }
    }

    private static boolean isStatic(Member m) {
        return Modifier.isStatic(m.getModifiers());
    }

    private static void words() throws Exception {
        String code = Files.readString(Path.of(SOURCE)).replaceAll("(?s)/\\*.*?\\*/", "").replaceAll("//[^\n]*", "");
        for (String word : FORBIDDEN) {
            boolean isWord = Character.isLetter(word.charAt(0));
            String sought = isWord ? "(?s).*\\b" + word.replace(".", "\\.") + "\\b.*" : "(?s).*" + word + ".*";
            Check.due("'" + word + "' stands in the program", code.matches(sought) ? 1 : 0, 0);
        }
        for (int i = 0; i < code.length(); i++) {
            char c = code.charAt(i);
            if (c != '\n' && (c < 32 || c > 126)) {
                Check.due("sign " + (int) c + " in the program", 1, 0);
            }
        }
    }

    /** A method here begins with a line that ends in ") {" at its class's depth, and ends with a bare brace there. */
    private static void methodsStayShort() throws Exception {
        List<String> lines = Files.readAllLines(Path.of(SOURCE));
        for (int depth = 4; depth <= 8; depth += 4) {
            String indent = " ".repeat(depth);
            int begun = -1;
            for (int i = 0; i < lines.size(); i++) {
                String line = lines.get(i);
                if (line.startsWith(indent) && line.charAt(depth) != ' ' && line.endsWith(") {")) {
                    begun = i;
                } else if (line.equals(indent + "}") && begun >= 0) {
                    Check.due("lines of " + lines.get(begun).trim(), i - begun + 1 <= 60 ? 1 : 0, 1);
                    begun = -1;
                }
            }
        }
    }
}
