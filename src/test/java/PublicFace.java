import java.io.IOException;
import java.lang.reflect.Constructor;
import java.lang.reflect.Executable;
import java.lang.reflect.Field;
import java.lang.reflect.Method;
import java.lang.reflect.Modifier;
import java.nio.file.Files;
import java.nio.file.Path;
import java.util.ArrayList;
import java.util.List;
import java.util.TreeSet;

/** The class has the face that the document writes out, and no other; run from the project's directory. */
public final class PublicFace {
    private static final Path DOCUMENT = Path.of("../shared/DOC.md");
    private static final Path SOURCE = Path.of("src/main/java/SteadyShelf.java");
    /** The document's face once more, so that it is compared with the class wherever the test runs. */
    private static final String FACE = """
        public static final int NONE = -1;
        public SteadyShelf();
        public int feed(int a, int b, int c, int d, int e);
        public boolean end(int n);
        public int acts() throws IllegalArgumentException;
        public int fault();
        public int why();
        public int put(int node) throws IllegalArgumentException, IllegalStateException;
        public int cut() throws IllegalArgumentException, IllegalStateException;
        public int turn() throws IllegalArgumentException, IllegalStateException;
        public int build() throws IllegalStateException;
        public int tune(int what, int n) throws NoSuchElementException, IllegalArgumentException, IllegalStateException;
        public int tear(int block) throws IndexOutOfBoundsException, IllegalStateException;
        public int undo() throws IllegalStateException;
        public int find(int what) throws NoSuchElementException, IllegalArgumentException;
        public int way(int k) throws IllegalArgumentException;
        public int block(int block, int what) throws IndexOutOfBoundsException, NoSuchElementException;
        public int entry(int block, int slot, int what) throws IndexOutOfBoundsException, NoSuchElementException;
        public int letter(int block, int slot, int k) throws IndexOutOfBoundsException;
        public int row(int block, int row, int what) throws IndexOutOfBoundsException, NoSuchElementException;
        public int leaf(int k);
        public int shape(int what) throws NoSuchElementException;
        public int crowds(int key) throws IllegalArgumentException;
        public int best(int key, int n) throws IllegalArgumentException;
        public boolean open(int reader, boolean is) throws IndexOutOfBoundsException;
        public int next(int reader) throws IndexOutOfBoundsException, IllegalStateException;
        public int reader(int reader, int what) throws IndexOutOfBoundsException, NoSuchElementException;
        public int batch(int reader, int k) throws IndexOutOfBoundsException;
        public void image();
        public boolean back();
        public int count(int what);
        """;
    private static int wrong = 0;

    private static void due(boolean holds, String what) {
        if (!holds) {
            wrong++;
            System.out.println(what);
        }
    }

    /** The lines between the class's first line and its last one. */
    private static List<String> documentsFace() throws IOException {
        List<String> face = new ArrayList<>();
        boolean inside = false;
        for (String line : Files.readAllLines(DOCUMENT)) {
            if (line.equals("public final class SteadyShelf {")) {
                inside = true;
            } else if (inside && line.equals("}")) {
                return face;
            } else if (inside) {
                face.add(line.trim());
            }
        }
        return face;
    }

    private static String types(Class<?>[] classes) {
        List<String> names = new ArrayList<>();
        for (Class<?> c : classes) {
            names.add(c.getSimpleName());
        }
        return String.join(", ", names);
    }

    private static String told(Executable e, String answerAndName) {
        String thrown = types(e.getExceptionTypes());
        return "public " + answerAndName + "(" + types(e.getParameterTypes()) + ")"
            + (thrown.isEmpty() ? "" : " throws " + thrown) + ";";
    }

    /** As the class itself tells it: parameters without their names. */
    private static TreeSet<String> classesFace() throws IllegalAccessException {
        TreeSet<String> face = new TreeSet<>();
        for (Method m : SteadyShelf.class.getDeclaredMethods()) {
            if (!Modifier.isPrivate(m.getModifiers()) && !m.isSynthetic()) {
                due(!Modifier.isStatic(m.getModifiers()), m + " is static");
                face.add(told(m, m.getReturnType().getSimpleName() + " " + m.getName()));
            }
        }
        for (Constructor<?> c : SteadyShelf.class.getDeclaredConstructors()) {
            face.add(told(c, "SteadyShelf"));
        }
        for (Field f : SteadyShelf.class.getDeclaredFields()) {
            if (!Modifier.isPrivate(f.getModifiers())) {
                face.add(Modifier.toString(f.getModifiers()) + " " + f.getType().getSimpleName() + " " + f.getName() + " = "
                    + (isNumber(f) ? String.valueOf(f.getInt(null)) : "?") + ";");
            }
        }
        return face;
    }

    private static boolean isNumber(Field f) {
        return Modifier.isPublic(f.getModifiers()) && Modifier.isStatic(f.getModifiers()) && f.getType() == int.class;
    }

    private static String withoutParameterNames(String line) {
        int begin = line.indexOf('(');
        int end = line.indexOf(')');
        return begin < 0 ? line
            : line.substring(0, begin) + line.substring(begin, end).replaceAll(" \\w+(?=,|$)", "") + line.substring(end);
    }

    public static void main(String[] args) throws IOException, IllegalAccessException {
        List<String> face = List.of(FACE.split("\n"));
        if (Files.isReadable(DOCUMENT)) {
            List<String> told = documentsFace();
            due(told.equals(face), "the document's face is not the one here: " + told);
        }
        String source = Files.readString(SOURCE);
        TreeSet<String> want = new TreeSet<>();
        for (String line : face) {
            want.add(withoutParameterNames(line));
            String inSource = "    " + (line.endsWith(");") || line.contains(" throws ") ? line.replace(";", " {") : line) + "\n";
            due(source.contains("\n" + inSource), "not in the source as the document has it: " + line);
        }
        TreeSet<String> got = classesFace();
        for (String line : want) {
            due(got.contains(line), "the class does not have " + line);
        }
        for (String line : got) {
            due(want.contains(line), "the document does not have " + line);
        }
        int modifiers = SteadyShelf.class.getModifiers();
        due(modifiers == (Modifier.PUBLIC | Modifier.FINAL), "the class is " + Modifier.toString(modifiers));
        System.out.println(face.size() + " lines of the face, " + wrong + " faults");
        if (wrong != 0) {
            System.exit(1);
        }
    }
}
