import java.io.IOException;
import java.lang.reflect.Field;
import java.lang.reflect.InvocationTargetException;
import java.lang.reflect.Method;
import java.lang.reflect.Modifier;
import java.net.URL;
import java.net.URLClassLoader;
import java.nio.file.Files;
import java.nio.file.Path;
import java.util.ArrayList;
import java.util.List;
import java.util.Set;
import java.util.TreeSet;
import java.util.regex.Matcher;
import java.util.regex.Pattern;
import java.util.stream.Stream;
import javax.tools.ToolProvider;

/**
 * README.md's Java, compiled and run as one program. A call there stands on a line of its own with its answer
 * behind it; a block that begins with "static" has methods that the program uses.
 */
public final class ReadmeTest {
    private static final String NAME = "ReadmeProgram";
    private static final Pattern CALL = Pattern.compile("(x\\.(\\w+)\\([^;]*\\)); *// (-?\\d+|NONE|ENDLESS|TOO_GREAT|UNSETTLED): \\S.*");
    private static final Pattern TEXT = Pattern.compile("(\\w+\\(x\\)); *// (\"[^\"]*\")");
    /** What a block has beside calls with their answers. */
    private static final Pattern BESIDE = Pattern.compile("SpanValues x = new SpanValues\\(\\);|put\\(x, \".*| +\\+ \".*");
    private static int asked = 0;

    private final Set<String> shown = new TreeSet<>();
    private final StringBuilder methods = new StringBuilder();
    private final StringBuilder body = new StringBuilder();
    private int calls = 0;

    private ReadmeTest() {
    }

    public static void main(String[] args) throws IOException, ReflectiveOperationException {
        Path root = Path.of(args.length > 0 ? args[0] : ".");
        List<String> lines = Files.readAllLines(root.resolve("README.md"));
        ReadmeTest readme = new ReadmeTest();
        readme.read(lines);
        readme.runAll();
        readme.allIsShown();
        String whole = String.join("\n", lines);
        tellsTheConstants(whole);
        namesTheTests(whole, root.resolve("src/test/java"));
        System.out.println(asked + " answers of README.md");
        Desk.finish();
    }

    /** Called by the program that is made of README.md. */
    public static void due(int line, String call, long got, long want) {
        asked++;
        Desk.must(got == want, "README.md, line " + line + ": " + call + " answered " + got + ", it says " + want);
    }

    /** Called by the program that is made of README.md. */
    public static void due(int line, String call, String got, String want) {
        asked++;
        Desk.must(got.equals(want), "README.md, line " + line + ": " + call + " is '" + got + "', it says '" + want + "'");
    }

    private void read(List<String> lines) {
        boolean inBlock = false;
        boolean ofMethods = false;
        for (int at = 0; at < lines.size(); at++) {
            String line = lines.get(at);
            if (line.startsWith("```")) {
                Desk.must(inBlock || line.equals("```java"), "README.md, line " + (at + 1) + ": a block that is not Java");
                inBlock = !inBlock;
                ofMethods = inBlock && at + 1 < lines.size() && lines.get(at + 1).startsWith("static ");
            } else if (ofMethods) {
                methods.append(line).append('\n');
            } else if (inBlock) {
                readLine(at + 1, line);
            }
        }
        Desk.must(!inBlock, "README.md: the last block has no end");
    }

    private void readLine(int number, String line) {
        Matcher call = CALL.matcher(line);
        Matcher text = TEXT.matcher(line);
        if (call.matches()) {
            boolean constant = Character.isUpperCase(call.group(3).charAt(0));
            shown.add(call.group(2));
            shown.add(call.group(3));
            add(number, call.group(1), constant ? "SpanValues." + call.group(3) : call.group(3));
        } else if (text.matches()) {
            add(number, text.group(1), text.group(2));
        } else {
            Desk.must(BESIDE.matcher(line).matches(), "README.md, line " + number + ": what does it answer? " + line);
            body.append(line).append('\n');
        }
    }

    private void add(int number, String call, String answer) {
        calls++;
        body.append("ReadmeTest.due(").append(number).append(", \"").append(call).append("\", ").append(call).append(", ")
            .append(answer).append(");\n");
    }

    private void runAll() throws IOException, ReflectiveOperationException {
        Path work = Files.createTempDirectory("readme");
        try {
            Path source = work.resolve(NAME + ".java");
            Files.writeString(source, "public final class " + NAME + " {\n" + methods + "public static void run() {\n" + body + "}\n}\n");
            int refused = ToolProvider.getSystemJavaCompiler().run(null, null, null, "-Xlint:all", "-Werror", "-cp",
                System.getProperty("java.class.path"), "-d", work.toString(), source.toString());
            Desk.must(refused == 0, "README.md's Java does not compile");
            if (refused == 0) {
                runProgram(work);
            }
        } finally {
            try (Stream<Path> files = Files.list(work)) {
                for (Path file : files.toList()) {
                    Files.delete(file);
                }
            }
            Files.delete(work);
        }
        Desk.must(asked == calls, "README.md shows " + calls + " answers, " + asked + " were asked for");
    }

    private static void runProgram(Path work) throws IOException, ReflectiveOperationException {
        try (URLClassLoader loader = new URLClassLoader(new URL[] {work.toUri().toURL()}, ReadmeTest.class.getClassLoader())) {
            loader.loadClass(NAME).getMethod("run").invoke(null);
        } catch (InvocationTargetException thrown) {
            Desk.must(false, "README.md's program threw " + thrown.getCause());
        }
    }

    /** Each call and constant of the face stands there at least once, with an answer. */
    private void allIsShown() {
        for (Method method : SpanValues.class.getDeclaredMethods()) {
            if (Modifier.isPublic(method.getModifiers())) {
                Desk.must(shown.contains(method.getName()), "README.md does not show " + method.getName());
            }
        }
        for (Field field : SpanValues.class.getFields()) {
            Desk.must(shown.contains(field.getName()), "README.md shows no answer " + field.getName());
        }
    }

    /** The number of each constant stands behind its name. */
    private static void tellsTheConstants(String readme) throws IllegalAccessException {
        for (Field field : SpanValues.class.getFields()) {
            Matcher told = Pattern.compile("`" + field.getName() + "`, (-?\\d+)").matcher(readme);
            boolean found = told.find();
            Desk.must(found, "README.md does not tell what number " + field.getName() + " is");
            Desk.must(!found || Integer.parseInt(told.group(1)) == field.getInt(null), "README.md: " + field.getName());
        }
    }

    private static void namesTheTests(String readme, Path folder) throws IOException {
        List<String> there = new ArrayList<>();
        try (Stream<Path> files = Files.list(folder)) {
            for (Path file : files.toList()) {
                there.add(file.getFileName().toString().replace(".java", ""));
            }
        }
        for (String name : there) {
            Desk.must(readme.contains("`" + name + "`"), "README.md does not name " + name);
        }
        Matcher named = Pattern.compile("`([A-Z]\\w*Test)`").matcher(readme);
        while (named.find()) {
            Desk.must(there.contains(named.group(1)), "README.md names " + named.group(1) + ", which is not there");
        }
    }
}
