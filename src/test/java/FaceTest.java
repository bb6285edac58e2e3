import java.io.IOException;
import java.lang.reflect.Constructor;
import java.lang.reflect.Field;
import java.lang.reflect.Member;
import java.lang.reflect.Method;
import java.lang.reflect.Modifier;
import java.nio.file.Files;
import java.nio.file.Path;
import java.util.Arrays;
import java.util.List;
import java.util.Set;
import java.util.TreeSet;
import java.util.stream.Collectors;

/** The public face, and those rules of LANGUAGE.md that can be seen from the class and its source. */
public final class FaceTest {
    private static final Set<String> FACE = new TreeSet<>(Set.of("int sign(int)", "boolean end(int)",
        "int tells(int,int)", "int means(int)", "int day(int,int,int)", "int date(int)", "int moved(int,int,int)",
        "int readings(int)", "int reading(int,int,int)", "int hull(int)", "int order(int,int,int)", "int told(int)",
        "int choices()", "int best()", "int other()", "int conflict()", "int without(int)", "int with(int,int,int)",
        "int asks()", "int on(int)", "int busiest()", "int free(int,int)", "int ref(int)",
        "int rules(int,int,boolean)", "int narrows()", "int drops(int)", "int goes(int)", "int work()", "int undo()",
        "int years(int,int)", "boolean keep(int)", "boolean again(int)", "int count(int)", "long row(int)"));
    private static final Path SOURCE = Path.of("src/main/java/ProseDates.java");
    private static final List<String> FORBIDDEN = List.of("->", "::", "catch", "finally", "synchronized", "assert ",
        "package ", "String.", "System.out", "System.nano", "System.current", "Random", "Thread", "equals(",
        "hashCode", "toString", "Exact(", "instanceof", "double", "float", " + \"", "\" +");

    private static int wrong = 0;

    public static void main(String[] args) throws IOException {
        face();
        for (Class<?> c : ProseDates.class.getDeclaredClasses()) {
            nested(c);
        }
        is(ProseDates.class.getDeclaredClasses().length <= 11, "at most twelve classes");
        source();
        System.out.println(wrong == 0 ? "the face is as due" : wrong + " faults of the face");
        System.exit(wrong == 0 ? 0 : 1);
    }

    private static void is(boolean fine, String what) {
        if (!fine) {
            wrong++;
            System.out.println("not so: " + what);
        }
    }

    private static String signature(Method m) {
        return m.getReturnType() + " " + m.getName() + "("
            + Arrays.stream(m.getParameterTypes()).map(Class::toString).collect(Collectors.joining(",")) + ")";
    }

    private static void face() {
        Class<?> c = ProseDates.class;
        is(Modifier.isPublic(c.getModifiers()) && Modifier.isFinal(c.getModifiers()), "a public final class");
        Set<String> found = new TreeSet<>();
        Set<String> names = new TreeSet<>();
        for (Method m : c.getDeclaredMethods()) {
            if (Modifier.isPublic(m.getModifiers())) {
                found.add(signature(m));
                names.add(m.getName());
                boolean throwsNone = m.getName().equals("reading") || m.getName().equals("row");
                is(m.getExceptionTypes().length == (throwsNone ? 1 : 0), "what " + m + " throws");
            }
        }
        is(found.equals(FACE), "the methods of the face: " + found);
        Constructor<?>[] made = c.getDeclaredConstructors();
        is(made.length == 1 && Modifier.isPublic(made[0].getModifiers()) && made[0].getParameterCount() == 0,
            "one constructor without parameters");
        for (Field f : c.getDeclaredFields()) {
            is(f.getName().equals("NONE") == Modifier.isPublic(f.getModifiers()), "public constant " + f);
            is(f.getName().equals("NONE") || Modifier.isPrivate(f.getModifiers()), "private " + f);
        }
        shape(c, names);
        for (Class<?> n : c.getDeclaredClasses()) {
            shape(n, names);
        }
    }

    private static void shape(Class<?> c, Set<String> publicNames) {
        int fields = 0;
        for (Field f : c.getDeclaredFields()) {
            boolean isStatic = Modifier.isStatic(f.getModifiers());
            is(!isStatic || Modifier.isFinal(f.getModifiers()), "final, if static: " + f);
            fields += isStatic ? 0 : 1;
        }
        is(fields <= 20, "at most twenty fields in " + c);
        for (Method m : c.getDeclaredMethods()) {
            is(m.getParameterCount() <= 7, "at most seven parameters of " + m);
            boolean isFace = c == ProseDates.class && Modifier.isPublic(m.getModifiers());
            is(isFace || !publicNames.contains(m.getName()), "another name than one of the face: " + m);
            is(isFace || c != ProseDates.class || Modifier.isPrivate(((Member) m).getModifiers()), "private " + m);
        }
    }

    private static void nested(Class<?> c) {
        int m = c.getModifiers();
        is(Modifier.isStatic(m) && !Modifier.isPublic(m) && !Modifier.isProtected(m), "static, not public: " + c);
    }

    private static void source() throws IOException {
        List<String> lines = Files.readAllLines(SOURCE);
        int begun = -1;
        int methods = 0;
        for (int i = 0; i < lines.size(); i++) {
            String line = lines.get(i);
            String code = line.replaceAll("//.*", "").replaceAll("^\\s*/?\\*.*", "");
            for (String word : FORBIDDEN) {
                is(!code.contains(word), "line " + (i + 1) + " without " + word);
            }
            is(!code.startsWith("import") || code.equals("import java.util.NoSuchElementException;"),
                "no other import: " + code);
            is(line.chars().allMatch(ch -> ch >= 32 && ch < 127), "plain signs in line " + (i + 1));
            if (line.matches("( {4}| {8})\\w.*\\) (throws \\w+ )?\\{")) {
                begun = i;
            }
            if (begun >= 0 && line.equals(indent(lines.get(begun)) + "}")) {
                is(i - begun < 60, "at most sixty lines from line " + (begun + 1) + " on");
                methods++;
                begun = -1;
            }
        }
        is(methods > FACE.size(), "methods are seen");
    }

    private static String indent(String line) {
        return line.substring(0, line.length() - line.stripLeading().length());
    }
}
