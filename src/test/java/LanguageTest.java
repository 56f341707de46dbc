import java.io.IOException;
import java.lang.reflect.Field;
import java.lang.reflect.Method;
import java.lang.reflect.Modifier;
import java.nio.file.Files;
import java.nio.file.Path;
import java.util.ArrayList;
import java.util.List;
import java.util.Set;
import java.util.TreeSet;
import java.util.regex.Matcher;
import java.util.regex.Pattern;

/** What of LANGUAGE.md can be seen from outside: the face, the classes inside, words that must not stand there. */
public final class LanguageTest {
    private static final Set<String> FACE = new TreeSet<>(List.of(
        "int feed(int,int,int,int,int)", "int end(int)", "int grammar()", "int fault(int)", "int say()",
        "int count(int)", "int rule(int,int)", "int table(int,int,int)", "int drops(int,int)", "int prices(int,int)",
        "int elements(int,int)", "int can(int,int,int)", "int least(int,int,int)", "long ways(int,int,int)",
        "int dearest(int,int,int)", "long used(int,int,int,int)", "int sum(int,int,int)", "int value(int,int,int)",
        "int rounds()", "int laws()", "int cases(int,int,int,int)", "int settled(int,int)",
        "int best(int,int,int,int)", "int size(int,int,int,int,int)", "int step(int,int,int,int,int)",
        "int bounds(int,int,int)", "int tell(int,int,int,int)", "int octet(int)", "long cheap(int,int,int,int)",
        "int alike(int,int,int,int,int)", "int without(int)", "int heads()", "int mends()", "int mend(int)",
        "int rings()", "long alive()"));
    private static final Set<String> CONSTANTS = Set.of("NONE -1", "ENDLESS -5", "TOO_GREAT -3", "UNSETTLED -6");
    private static final int MOST_CLASSES = 12;
    private static final int MOST_FIELDS = 20;
    private static final int MOST_PARAMETERS = 7;
    private static final int MOST_LINES = 60;
    private static int wrong = 0;

    private static void must(boolean holds, String what) {
        if (!holds) {
            wrong++;
            System.out.println(what);
        }
    }

    public static void main(String[] args) throws IOException, IllegalAccessException {
        Path root = Path.of(args.length > 0 ? args[0] : ".");
        face();
        Set<String> names = new TreeSet<>();
        for (Method method : SpanValues.class.getDeclaredMethods()) {
            if (Modifier.isPublic(method.getModifiers())) {
                names.add(method.getName());
            }
        }
        List<Class<?>> classes = new ArrayList<>(List.of(SpanValues.class.getDeclaredClasses()));
        classes.add(SpanValues.class);
        must(classes.size() <= MOST_CLASSES, "too many classes: " + classes.size());
        for (Class<?> one : classes) {
            inside(one, names);
        }
        source(Files.readAllLines(root.resolve("src/main/java/SpanValues.java")));
        System.out.println(wrong == 0 ? "the language is kept to" : wrong + " times it is not");
        if (wrong != 0) {
            System.exit(1);
        }
    }

    private static String head(Method method) {
        List<String> types = new ArrayList<>();
        for (Class<?> type : method.getParameterTypes()) {
            types.add(type.getSimpleName());
        }
        return method.getReturnType().getSimpleName() + " " + method.getName() + "(" + String.join(",", types) + ")";
    }

    private static void face() throws IllegalAccessException {
        Set<String> found = new TreeSet<>();
        for (Method method : SpanValues.class.getDeclaredMethods()) {
            if (!Modifier.isPrivate(method.getModifiers())) {
                found.add(head(method));
            }
        }
        must(found.equals(FACE), "the face is not the document's: " + found);
        Set<String> constants = new TreeSet<>();
        for (Field field : SpanValues.class.getDeclaredFields()) {
            if (!Modifier.isPrivate(field.getModifiers())) {
                constants.add(field.getName() + " " + field.get(null));
            }
        }
        must(constants.equals(CONSTANTS), "the constants are not the document's: " + constants);
        must(Modifier.isFinal(SpanValues.class.getModifiers()), "the class is not final");
        must(SpanValues.class.getDeclaredConstructors().length == 1, "more than one constructor");
    }

    private static void inside(Class<?> one, Set<String> names) {
        boolean outer = one == SpanValues.class;
        must(outer || Modifier.isStatic(one.getModifiers()) && !Modifier.isPublic(one.getModifiers()),
            one + " is not static, or public");
        int fields = 0;
        for (Field field : one.getDeclaredFields()) {
            boolean fixed = Modifier.isStatic(field.getModifiers());
            must(!fixed || Modifier.isFinal(field.getModifiers()), field + " is static and not final");
            fields += fixed ? 0 : 1;
        }
        must(fields <= MOST_FIELDS, one + " has " + fields + " fields");
        for (Method method : one.getDeclaredMethods()) {
            must(method.getParameterCount() <= MOST_PARAMETERS, method + " has too many parameters");
            boolean ofFace = outer && Modifier.isPublic(method.getModifiers());
            must(ofFace || !names.contains(method.getName()), method + " bears the name of a public one");
            must(!method.isSynthetic(), method + " is made by the compiler: a lambda?");
        }
    }

    private static void source(List<String> lines) {
        Pattern banned = Pattern.compile("\\b(throw|throws|try|catch|synchronized|assert|package|instanceof|native|volatile"
            + "|Object|System\\.(out|err|nanoTime|currentTimeMillis)|Random|Thread|\\w+Exact)\\b|->|::|@");
        boolean inComment = false;
        int methodAt = -1;
        for (int at = 0; at < lines.size(); at++) {
            String line = lines.get(at);
            inComment |= line.strip().startsWith("/**");
            String code = inComment ? "" : line.replaceAll("//.*", "");
            Matcher matcher = banned.matcher(code);
            must(!matcher.find(), "line " + (at + 1) + " must not stand there: " + line);
            must(!code.startsWith("import ") || code.equals("import java.util.Arrays;"), "import: " + line);
            must(line.length() <= 120, "line " + (at + 1) + " is too long");
            must(line.chars().allMatch(sign -> sign >= 32 && sign < 127), "line " + (at + 1) + " has an odd sign");
            inComment &= !line.contains("*/");
            if (code.matches(" {4,8}[a-zA-Z].*\\) \\{")) {
                methodAt = at;
            } else if (code.matches(" {4,8}\\}") && methodAt >= 0) {
                must(at - methodAt < MOST_LINES, "line " + (methodAt + 1) + ": a method of " + (at - methodAt) + " lines");
                methodAt = -1;
            }
        }
    }
}
