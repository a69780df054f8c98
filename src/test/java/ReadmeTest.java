import java.io.IOException;
import java.lang.reflect.Method;
import java.lang.reflect.Modifier;
import java.net.URL;
import java.net.URLClassLoader;
import java.nio.file.Files;
import java.nio.file.Path;
import java.util.ArrayList;
import java.util.Arrays;
import java.util.List;
import java.util.TreeSet;
import java.util.regex.Matcher;
import java.util.regex.Pattern;
import java.util.stream.Stream;
import javax.tools.JavaCompiler;
import javax.tools.ToolProvider;

/** What README.md says: its example, compiled as it stands, its calls, its tests. */
public final class ReadmeTest {
    private static final Path PAGE = Path.of("README.md"), TESTS = Path.of("src/test/java"), CI = Path.of(".ci/run");
    private static final Pattern ANSWERED = Pattern.compile("(x\\.\\w+\\(.*\\)); *// (-?\\d+).*");
    private static final int PROMISES = 35;

    public static void main(String[] args) throws IOException, ReflectiveOperationException {
        Due due = new Due();
        String page = Files.readString(PAGE);
        exampleAnswersAsShown(due, page);
        callsAreThoseOfTheFace(due, page);
        constantsAreAsShown(due, page);
        testsAreThoseThatStand(due, page);
        testsAreRunAsTold(due, page);
        due.end();
    }

    /** Each call of the example that shows an answer is kept, in order, in a class that answers them all. */
    private static void exampleAnswersAsShown(Due due, String page) throws IOException, ReflectiveOperationException {
        List<String> calls = new ArrayList<>();
        List<Integer> shown = new ArrayList<>();
        StringBuilder code = new StringBuilder("public class Example { public static int[] answers() {\n");
        code.append("java.util.List<Integer> all = new java.util.ArrayList<>();\n");
        for (String line : between(page, "```java\n", "```").split("\n")) {
            Matcher answered = ANSWERED.matcher(line);
            if (answered.matches()) {
                calls.add(answered.group(1));
                shown.add(Integer.valueOf(answered.group(2)));
                code.append("all.add(").append(answered.group(1)).append(");\n");
            } else {
                due.isTrue("an answer is missing: " + line, !line.startsWith("x."));
                code.append(line).append("\n");
            }
        }
        code.append("return all.stream().mapToInt(one -> one).toArray(); } }\n");
        due.isTrue("the example shows answers", !shown.isEmpty());
        int[] answers = answersOf(code.toString());
        due.is("answers of the example", answers.length, shown.size());
        for (int n = 0; n < Math.min(answers.length, shown.size()); n++) {
            due.is("the example's " + calls.get(n), answers[n], shown.get(n));
        }
    }

    private static int[] answersOf(String code) throws IOException, ReflectiveOperationException {
        Path out = Files.createTempDirectory("readme");
        Path source = out.resolve("Example.java");
        Path made = out.resolve("Example.class");
        try {
            Files.writeString(source, code);
            JavaCompiler compiler = ToolProvider.getSystemJavaCompiler();
            String beside = System.getProperty("java.class.path");
            if (compiler.run(null, null, null, "-cp", beside, "-d", out.toString(), source.toString()) != 0) {
                return new int[0];
            }
            try (URLClassLoader loader = new URLClassLoader(new URL[] {out.toUri().toURL()})) {
                return (int[]) loader.loadClass("Example").getMethod("answers").invoke(null);
            }
        } finally {
            Files.deleteIfExists(made);
            Files.deleteIfExists(source);
            Files.deleteIfExists(out);
        }
    }

    /** The table of calls has each call of the face once, with as many numbers as it takes. */
    private static void callsAreThoseOfTheFace(Due due, String page) {
        List<String> told = new ArrayList<>();
        Matcher call = Pattern.compile("`(\\w+)\\(([^`]*)\\)`").matcher(between(page, "| calls |", "\n\n"));
        while (call.find()) {
            String numbers = call.group(2);
            told.add(call.group(1) + " " + (numbers.isEmpty() ? 0 : numbers.split(",").length));
        }
        List<String> face = new ArrayList<>();
        for (Method method : DummyInches.class.getDeclaredMethods()) {
            if (Modifier.isPublic(method.getModifiers())) {
                face.add(method.getName() + " " + method.getParameterCount());
            }
        }
        due.is("calls told", told.size(), face.size());
        due.isTrue("calls told " + told + ", of the face " + face, new TreeSet<>(told).equals(new TreeSet<>(face)));
    }

    private static void constantsAreAsShown(Due due, String page) {
        due.isTrue("NONE", page.contains("`NONE` " + DummyInches.NONE));
        due.isTrue("BAD", page.contains("`BAD` " + DummyInches.BAD));
        due.isTrue("STATE", page.contains("`STATE` " + DummyInches.STATE));
        due.isTrue("FULL", page.contains("`FULL` " + DummyInches.FULL));
    }

    /** Each promise has its test, and each other test has its line. */
    private static void testsAreThoseThatStand(Due due, String page) throws IOException {
        String told = between(page, "| test |", "\n\n");
        int[] ofPromise = new int[PROMISES + 1];
        try (Stream<Path> files = Files.list(TESTS)) {
            for (String name : files.map(file -> file.getFileName().toString()).sorted().toArray(String[]::new)) {
                if (name.matches("Promise\\d\\d\\w+Test\\.java")) {
                    ofPromise[Integer.parseInt(name.substring(7, 9)) % ofPromise.length]++;
                } else if (name.endsWith("Test.java")) {
                    due.isTrue(name + " has no line", told.contains("| " + name.replace(".java", "") + " |"));
                }
            }
        }
        int[] oneEach = new int[PROMISES + 1];
        Arrays.fill(oneEach, 1, oneEach.length, 1);
        due.isTrue("tests of promises " + Arrays.toString(ofPromise), Arrays.equals(ofPromise, oneEach));
        Matcher test = Pattern.compile("\\w+Test\\b").matcher(told);
        while (test.find()) {
            due.isTrue(test.group() + " does not stand", Files.exists(TESTS.resolve(test.group() + ".java")));
        }
    }

    /** The page names the script that CI runs, and one test is made by the same command as there. */
    private static void testsAreRunAsTold(Due due, String page) throws IOException {
        String how = page.substring(Math.max(0, page.indexOf("## How to run its tests")));
        due.isTrue("the script is named", how.contains("\n    .ci/run\n"));
        due.isTrue("the script can be run", Files.isExecutable(CI));
        String told = between(how, "    javac ", "\n");
        String script = Files.readString(CI)
                .replace("$source", "src/main/java/DummyInches.java").replace("$own", "src/test/java")
                .replace("$out/own", "out").replace("\"", "");
        due.isTrue("compiled otherwise than by " + told, !told.isEmpty() && script.contains("javac " + told));
    }

    /** What stands between two marks; nothing, if the first is missing. */
    private static String between(String page, String first, String last) {
        int from = page.indexOf(first);
        int to = from < 0 ? -1 : page.indexOf(last, from + first.length());
        return to < 0 ? "" : page.substring(from + first.length(), to);
    }
}
