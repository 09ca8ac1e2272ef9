import java.lang.reflect.Constructor;
import java.lang.reflect.Field;
import java.lang.reflect.Method;
import java.lang.reflect.Modifier;
import java.nio.file.Files;
import java.nio.file.Path;
import java.util.ArrayList;
import java.util.Arrays;
import java.util.List;
import java.util.TreeSet;

/** Rule 1 of LANGUAGE.md: the class has the document's face, and nothing else is open. Run from the project's root. */
final class FaceTest {
    private static final Path DOCUMENT = Path.of("../shared/DOC.md");
    private static final Path PROGRAM = Path.of("src/main/java/WellField.java");

    public static void main(String[] args) throws Exception {
        faceIsTheDocuments();
        headersStandInTheProgram();
        classItself();
        openMembers();
        fieldsArePrivate();
        classesInside(WellField.class);
        noPublicNameTwice();
        Check.finish();
    }

    private static void holds(String what, boolean isSo) {
        Check.due(what, isSo ? 1 : 0, 1);
    }

    /** Lest the copy of the face in the tests grow old. */
    private static void faceIsTheDocuments() throws Exception {
        if (!Files.exists(DOCUMENT)) {
            System.out.println("not there: " + DOCUMENT + "; the copy in Face.java is taken for it");
            return;
        }
        List<String> told = Face.between(DOCUMENT, "public final class WellField {", "}");
        Check.due("lines of the face in " + DOCUMENT, told.size(), Face.LINES.size());
        for (int i = 0; i < told.size() && i < Face.LINES.size(); i++) {
            holds("line " + i + " of the face is " + told.get(i), told.get(i).equals(Face.LINES.get(i)));
        }
    }

    /** By the program's text, since a compiled class no longer tells the names of parameters, nor the order. */
    private static void headersStandInTheProgram() throws Exception {
        List<String> headers = new ArrayList<>();
        for (String line : Files.readAllLines(PROGRAM)) {
            if (line.startsWith("    public ")) {
                headers.add(line.trim().replace(" {", ";"));
            }
        }
        holds("the headers " + headers + " are the face's, in its order", headers.equals(Face.LINES));
    }

    private static void classItself() {
        int modifiers = WellField.class.getModifiers();
        Check.due("the class is public and final", modifiers, Modifier.PUBLIC | Modifier.FINAL);
        holds("it extends nothing", WellField.class.getSuperclass() == Object.class);
        Check.due("it implements nothing", WellField.class.getInterfaces().length, 0);
        holds("it has no package", WellField.class.getPackageName().isEmpty());
    }

    private static void openMembers() {
        TreeSet<String> due = new TreeSet<>();
        for (String line : Face.LINES) {
            due.add(Face.withoutNames(line));
        }
        TreeSet<String> open = new TreeSet<>();
        for (Constructor<?> c : WellField.class.getDeclaredConstructors()) {
            if (!Modifier.isPrivate(c.getModifiers())) {
                open.add(c.toString());
            }
        }
        for (Method m : WellField.class.getDeclaredMethods()) {
            if (!Modifier.isPrivate(m.getModifiers())) {
                open.add(m.toString().replace("WellField.", ""));
            }
        }
        TreeSet<String> lacks = new TreeSet<>(due);
        lacks.removeAll(open);
        TreeSet<String> tooMuch = new TreeSet<>(open);
        tooMuch.removeAll(due);
        Check.due("of the face there lacks " + lacks, lacks.size(), 0);
        Check.due("beside the face there is open " + tooMuch, tooMuch.size(), 0);
    }

    private static void fieldsArePrivate() {
        for (Field f : WellField.class.getDeclaredFields()) {
            holds(f.getName() + " is private", Modifier.isPrivate(f.getModifiers()));
        }
    }

    private static void classesInside(Class<?> outer) {
        for (Class<?> c : outer.getDeclaredClasses()) {
            int modifiers = c.getModifiers();
            holds(c + " is static", Modifier.isStatic(modifiers));
            holds(c + " is private or package-visible", !Modifier.isPublic(modifiers) && !Modifier.isProtected(modifiers));
            classesInside(c);
        }
    }

    private static void noPublicNameTwice() {
        TreeSet<String> names = new TreeSet<>();
        for (String line : Face.LINES) {
            names.add(Face.asCalled(line).replaceAll("\\(.*", ""));
        }
        List<Class<?>> all = new ArrayList<>(Arrays.asList(WellField.class.getDeclaredClasses()));
        all.add(WellField.class);
        for (Class<?> c : all) {
            for (Method m : c.getDeclaredMethods()) {
                boolean isPrivate = Modifier.isPrivate(m.getModifiers());
                holds(c + "." + m.getName() + " bears no public name", !isPrivate || !names.contains(m.getName()));
            }
        }
    }
}
