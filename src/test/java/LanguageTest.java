import java.lang.reflect.Constructor;
import java.lang.reflect.Field;
import java.lang.reflect.Method;
import java.lang.reflect.Modifier;
import java.io.IOException;
import java.nio.file.Files;
import java.nio.file.Path;
import java.util.Arrays;
import java.util.List;
import java.util.Set;
import java.util.TreeSet;
import java.util.regex.Pattern;

/** The rules of LANGUAGE.md that can be looked up: the face, the classes inside, words that may not stand. */
public final class LanguageTest {
    private static final Path SOURCE = Path.of("src/main/java/DummyInches.java");
    private static final Set<String> FACE = new TreeSet<>(List.of("row 3", "set 3", "copy 5", "drop 1", "feed 1",
            "street 0", "fault 0", "undo 0", "tell 4", "year 0", "swap 2", "close 0", "dummy 3", "line 2", "pads 2",
            "was 3", "liars 4", "blame 5", "right 2", "most 3", "swaps 3", "lent 2", "parted 4", "addedUp 3", "felt 3",
            "twins 1", "image 1", "restore 1", "kind 1", "as 2", "ask 2", "trace 1", "count 1", "status 0"));
    private static final List<String> FORBIDDEN = List.of("\\bthrow\\b", "\\bthrows\\b", "\\btry\\b", "\\bcatch\\b",
            "\\bsynchronized\\b", "\\bassert\\b", "->", "::", "@", "Exact\\b", "\\bpackage\\b", "\\bvar\\b",
            "\\bnew \\w+\\(.*\\) *\\{", "\\bString\\b", "\\bdouble\\b", "\\bfloat\\b", "\\bSystem\\.(?!arraycopy\\b)",
            "\\bimport (?!java\\.util\\.Arrays;)", "\\bstatic *\\{", "\\bprotected\\b", "[^\\x00-\\x7f]");

    public static void main(String[] args) throws IOException {
        Due due = new Due();
        faceIsAsTold(due);
        classesInside(due);
        wordsThatMayNotStand(due);
        methodsStayShort(due);
        due.end();
    }

    private static void faceIsAsTold(Due due) {
        Class<?> face = DummyInches.class;
        Set<String> methods = new TreeSet<>();
        for (Method method : face.getDeclaredMethods()) {
            boolean isPublic = Modifier.isPublic(method.getModifiers());
            if (isPublic) {
                methods.add(method.getName() + " " + method.getParameterCount());
                due.isTrue(method + " answers an int", method.getReturnType() == int.class);
            }
            due.isTrue(method + " is public or private", isPublic || Modifier.isPrivate(method.getModifiers()));
            due.isTrue(method + " has a name of the face", isPublic || !namesOfTheFace().contains(method.getName()));
        }
        due.isTrue("the methods are " + methods, methods.equals(FACE));
        Set<String> constants = new TreeSet<>();
        for (Field field : face.getDeclaredFields()) {
            if (!Modifier.isPrivate(field.getModifiers())) {
                constants.add(field.getName());
            }
        }
        due.isTrue("the constants are " + constants, constants.equals(Set.of("NONE", "BAD", "STATE", "FULL")));
        Constructor<?>[] constructors = face.getDeclaredConstructors();
        due.isTrue("one constructor", constructors.length == 1 && constructors[0].getParameterCount() == 0);
        due.isTrue("public and final", Modifier.isPublic(face.getModifiers()) && Modifier.isFinal(face.getModifiers()));
    }

    private static Set<String> namesOfTheFace() {
        Set<String> names = new TreeSet<>();
        FACE.forEach(method -> names.add(method.substring(0, method.indexOf(' '))));
        return names;
    }

    private static void classesInside(Due due) {
        Class<?>[] inside = DummyInches.class.getDeclaredClasses();
        due.isTrue("at most twelve classes: " + (inside.length + 1), inside.length < 12);
        Set<String> names = namesOfTheFace();
        for (Class<?> one : inside) {
            due.isTrue(one + " is static", Modifier.isStatic(one.getModifiers()));
            long fields = Arrays.stream(one.getDeclaredFields())
                    .filter(field -> !Modifier.isStatic(field.getModifiers())).count();
            due.isTrue(one + " has at most twenty fields", fields <= 20);
            for (Field field : one.getDeclaredFields()) {
                boolean isConstant = Modifier.isFinal(field.getModifiers());
                due.isTrue(field + " is no static state", isConstant || !Modifier.isStatic(field.getModifiers()));
            }
            for (Method method : one.getDeclaredMethods()) {
                due.isTrue(method + " has no name of the face", !names.contains(method.getName()));
                due.isTrue(method + " has at most seven parameters", method.getParameterCount() <= 7);
            }
        }
    }

    private static void wordsThatMayNotStand(Due due) throws IOException {
        List<String> lines = Files.readAllLines(SOURCE);
        for (int n = 0; n < lines.size(); n++) {
            String code = lines.get(n).replaceAll("//.*", "");
            for (String word : FORBIDDEN) {
                due.isTrue("line " + (n + 1) + " has " + word, !Pattern.compile(word).matcher(code).find());
            }
        }
    }

    private static void methodsStayShort(Due due) throws IOException {
        int begun = -1;
        List<String> lines = Files.readAllLines(SOURCE);
        for (int n = 0; n < lines.size(); n++) {
            String line = lines.get(n);
            if (line.matches(" {4,8}[\\w\\[\\] ]+\\(.*\\) \\{") || line.matches(" {4,8}[\\w\\[\\] ]+\\(.*,")) {
                begun = n;
            } else if (begun >= 0 && line.matches(" {4,8}\\}")) {
                due.isTrue("the method at line " + (begun + 1) + " is short", n - begun < 60);
            }
        }
        due.isTrue("methods were seen", begun > 0);
    }
}
