import java.lang.reflect.Field;
import java.lang.reflect.Member;
import java.lang.reflect.Method;
import java.lang.reflect.Modifier;
import java.nio.file.Files;
import java.nio.file.Path;
import java.util.ArrayList;
import java.util.Arrays;
import java.util.List;
import java.util.regex.Matcher;
import java.util.regex.Pattern;

/** The rules of LANGUAGE.md, but for the face, that can be seen from outside. Run from the project's root. */
final class RulesTest {
    private static final String SOURCE = "src/main/java/WellField.java";
    private static final String[] FORBIDDEN = {"throw", "throws", "try", "catch", "synchronized", "assert", "import",
        "package", "protected", "Object", "Float", "Double", "Exception", "hashCode", "toString", "System.out",
        "->", "::"};
    /** Rule 4, and rule 3's own classes: all that is called, or read, by a class's name. */
    private static final List<String> BY_CLASS = List.of("Math.min", "Math.max", "Math.abs", "System.arraycopy",
        "Tables.row");

    public static void main(String[] args) throws Exception {
        classesInside();
        words();
        library();
        methodsStayShort();
        Check.finish();
    }

    private static void classesInside() {
        List<Class<?>> all = new ArrayList<>(Arrays.asList(WellField.class.getDeclaredClasses()));
        Check.due("some twelve classes at most", all.size() <= 12 ? 1 : 0, 1);
        all.add(WellField.class);
        for (Class<?> c : all) {
            for (Method m : c.getDeclaredMethods()) {
                Check.due(m.getName() + " takes seven at most", m.getParameterCount() <= 7 ? 1 : 0, 1);
            }
            int fields = 0;
            for (Field f : c.getDeclaredFields()) {
                if (isStatic(f)) {
                    Check.due(f.getName() + " is final", Modifier.isFinal(f.getModifiers()) ? 1 : 0, 1);
                } else {
                    fields++;
                }
            }
            Check.due(c + " has some twenty fields at most", fields <= 20 ? 1 : 0, 1);
        }
    }

    private static boolean isStatic(Member m) {
        return Modifier.isStatic(m.getModifiers());
    }

    private static String withoutComments() throws Exception {
        return Files.readString(Path.of(SOURCE)).replaceAll("(?s)/\\*.*?\\*/", "").replaceAll("//[^\n]*", "");
    }

    private static void library() throws Exception {
        Matcher found = Pattern.compile("\\b[A-Z]\\w*\\.\\w+").matcher(withoutComments());
        while (found.find()) {
            Check.due(found.group() + " is used", BY_CLASS.contains(found.group()) ? 1 : 0, 1);
        }
    }

    private static void words() throws Exception {
        String code = withoutComments();
        for (String word : FORBIDDEN) {
            boolean isWord = Character.isLetter(word.charAt(0));
            String sought = isWord ? "(?s).*\\b" + word.replace(".", "\\.") + "\\b.*" : "(?s).*" + word + ".*";
            Check.due("'" + word + "' stands in the program", code.matches(sought) ? 1 : 0, 0);
        }
        for (int i = 0; i < code.length(); i++) {
            char c = code.charAt(i);
            if (c != '\n' && (c < 32 || c > 126)) {
                Check.due("sign " + (int) c + " in the program", 1, 0);
            }
        }
    }

    /** A method here begins with a line that ends in ") {" at its class's depth, and ends with a bare brace there. */
    private static void methodsStayShort() throws Exception {
        List<String> lines = Files.readAllLines(Path.of(SOURCE));
        for (int depth = 4; depth <= 8; depth += 4) {
            String indent = " ".repeat(depth);
            int begun = -1;
            for (int i = 0; i < lines.size(); i++) {
                String line = lines.get(i);
                if (line.startsWith(indent) && line.charAt(depth) != ' ' && line.endsWith(") {")) {
                    begun = i;
                } else if (line.equals(indent + "}") && begun >= 0) {
                    Check.due("lines of " + lines.get(begun).trim(), i - begun + 1 <= 60 ? 1 : 0, 1);
                    begun = -1;
                }
            }
        }
    }
}
