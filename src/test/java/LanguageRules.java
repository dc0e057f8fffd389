import java.io.IOException;
import java.lang.reflect.Constructor;
import java.lang.reflect.Field;
import java.lang.reflect.Method;
import java.lang.reflect.Modifier;
import java.nio.file.Files;
import java.nio.file.Path;
import java.util.Set;
import java.util.TreeSet;

/** The rules of LANGUAGE.md that can be read off the class and its source; run from the project's directory. */
public final class LanguageRules {
    private static final String[] FACE = {
        "int feed(int,int,int,int,int)", "boolean end(int)", "int acts()", "int fault()", "int why()", "int put(int)",
        "int cut()", "int turn()", "int build()", "int tune(int,int)", "int tear(int)", "int undo()", "int find(int)",
        "int way(int)", "int block(int,int)", "int entry(int,int,int)", "int letter(int,int,int)",
        "int row(int,int,int)", "int leaf(int)", "int shape(int)", "int crowds(int)", "int best(int,int)",
        "boolean open(int,boolean)", "int next(int)", "int reader(int,int)", "int batch(int,int)", "void image()",
        "boolean back()", "int count(int)"};
    private static final String[] NOT_IN_SOURCE = {
        "catch", "try", "finally", "synchronized", "assert", "->", "::", "Exact(", "native", "System.out", "volatile",
        "Random", "Thread", "hashCode", "toString", "getMessage", "package "};
    private static int wrong = 0;

    private static void rule(boolean holds, String what) {
        if (!holds) {
            wrong++;
            System.out.println("not kept: " + what);
        }
    }

    private static String signature(Method m) {
        StringBuilder b = new StringBuilder(m.getReturnType().getSimpleName()).append(' ').append(m.getName()).append('(');
        for (Class<?> type : m.getParameterTypes()) {
            b.append(b.charAt(b.length() - 1) == '(' ? "" : ",").append(type.getSimpleName());
        }
        return b.append(')').toString();
    }

    private static void face() {
        Set<String> due = new TreeSet<>(Set.of(FACE));
        Set<String> is = new TreeSet<>();
        for (Method m : SteadyShelf.class.getDeclaredMethods()) {
            if (Modifier.isPublic(m.getModifiers())) {
                is.add(signature(m));
            } else {
                rule(m.isSynthetic() || Modifier.isPrivate(m.getModifiers()), m + " is neither public nor private");
            }
        }
        rule(due.equals(is), "the face is " + is);
        int modifiers = SteadyShelf.class.getModifiers();
        rule(Modifier.isPublic(modifiers) && Modifier.isFinal(modifiers), "a public final class");
        Constructor<?>[] constructors = SteadyShelf.class.getDeclaredConstructors();
        rule(constructors.length == 1 && constructors[0].getParameterCount() == 0, "one constructor");
        rule(Modifier.isPublic(constructors[0].getModifiers()), "a public constructor");
        for (Field f : SteadyShelf.class.getDeclaredFields()) {
            boolean isNone = f.getName().equals("NONE") && Modifier.isPublic(f.getModifiers());
            rule(isNone || Modifier.isPrivate(f.getModifiers()), f + " is seen outside");
        }
    }

    private static void inside(Class<?> c) {
        Set<String> faceNames = new TreeSet<>();
        for (String s : FACE) {
            faceNames.add(s.substring(s.indexOf(' ') + 1, s.indexOf('(')));
        }
        int fields = 0;
        for (Field f : c.getDeclaredFields()) {
            boolean isStatic = Modifier.isStatic(f.getModifiers());
            rule(!isStatic || Modifier.isFinal(f.getModifiers()), f + " is static and not final");
            fields += isStatic ? 0 : 1;
        }
        rule(fields <= 20, c + " has " + fields + " fields");
        for (Method m : c.getDeclaredMethods()) {
            boolean isFace = c == SteadyShelf.class && Modifier.isPublic(m.getModifiers());
            rule(isFace || !faceNames.contains(m.getName()), m + " bears a name of the face");
            rule(m.getParameterCount() <= 7, m + " has too many parameters");
        }
    }

    private static void source() throws IOException {
        String all = Files.readString(Path.of("src/main/java/SteadyShelf.java"));
        for (String word : NOT_IN_SOURCE) {
            rule(!all.matches("(?s).*(?<![A-Za-z])" + java.util.regex.Pattern.quote(word) + ".*"), "'" + word + "' in the source");
        }
        for (String line : all.split("\n")) {
            boolean imports = line.startsWith("import ");
            rule(!imports || line.equals("import java.util.NoSuchElementException;"), line);
            rule(line.length() <= 130, "a line of " + line.length() + " signs");
        }
        rule(all.chars().allMatch(c -> c < 128), "signs beyond 127");
    }

    public static void main(String[] args) throws IOException {
        face();
        inside(SteadyShelf.class);
        Class<?>[] classes = SteadyShelf.class.getDeclaredClasses();
        rule(classes.length <= 11, classes.length + " classes inside");
        for (Class<?> c : classes) {
            rule(Modifier.isStatic(c.getModifiers()), c + " is not static");
            rule(Modifier.isPrivate(c.getModifiers()), c + " is not private");
            inside(c);
        }
        source();
        System.out.println(wrong == 0 ? "the rules are kept" : wrong + " rules are not kept");
        if (wrong != 0) {
            System.exit(1);
        }
    }
}
