import java.lang.reflect.InvocationTargetException;
import java.lang.reflect.Method;
import java.util.ArrayList;
import java.util.Comparator;
import java.util.List;

/**
 * Runs tests that are methods. The name of each says where its sentence stands in the document (p07 is
 * promise 7; t1, t2, t3 are Terms I to III; tGreat, tRefused, tCalls the lines that have no number),
 * and which case it is.
 */
final class Edges {
    /** All twelve labels have trees over every span of a: A by pairs, each other one by A. */
    static final String ALL = "rule A=AA;rule A=a;rule B=A;rule C=A;rule D=A;rule E=A;rule F=A;rule G=A;rule H=A;"
        + "rule I=A;rule J=A;rule K=A;rule L=A;";
    static final int NONE = SpanValues.NONE;
    static final int ENDLESS = SpanValues.ENDLESS;
    static final int TOO_GREAT = SpanValues.TOO_GREAT;
    static final int UNSETTLED = SpanValues.UNSETTLED;
    static final int REFUSED = -2;
    static final int FAULTY = -4;
    static final int LOWEST = Integer.MIN_VALUE;
    static final int HIGHEST = Integer.MAX_VALUE;

    private static final int[] WRONG_LABELS = {-1, 12, 100, LOWEST, HIGHEST};
    private static final int[][] WRONG_SPANS = {{0, 0}, {3, 3}, {8, 8}, {1, 0}, {5, 2}, {8, 7}, {-1, 0}, {-1, 1}, {-1, 8},
        {0, 9}, {7, 9}, {8, 9}, {9, 10}, {0, -1}, {LOWEST, 1}, {0, HIGHEST}, {LOWEST, HIGHEST}, {HIGHEST, LOWEST},
        {HIGHEST, HIGHEST}};

    /** A call that is told an item, its other numbers being in their bounds. */
    interface OfItem {
        long of(SpanValues x, int label, int i, int j);
    }

    private Edges() {
    }

    /** Runs each test of the class whose name begins with one of the heads; each head must have one. */
    static void run(Class<?> tests, String... heads) {
        List<Method> all = new ArrayList<>(List.of(tests.getDeclaredMethods()));
        all.removeIf(method -> method.getParameterCount() != 0 || method.isSynthetic());
        all.sort(Comparator.comparing(Method::getName));
        int number = 0;
        for (String head : heads) {
            int before = number;
            for (Method method : all) {
                if (method.getName().startsWith(head)) {
                    number++;
                    runOne(method);
                }
            }
            Desk.must(number > before, head + " has no test in " + tests.getName());
        }
        for (Method method : all) {
            boolean named = method.getName().matches("(p\\d\\d|t\\d|tGreat|tRefused|tCalls).*");
            Desk.must(!named || startsWithOne(method.getName(), heads), method.getName() + " was not run");
        }
        System.out.println(number + " tests");
        Desk.finish();
    }

    private static boolean startsWithOne(String name, String[] heads) {
        for (String head : heads) {
            if (name.startsWith(head)) {
                return true;
            }
        }
        return false;
    }

    private static void runOne(Method method) {
        Desk.about(method.getName());
        try {
            method.invoke(null);
        } catch (InvocationTargetException | IllegalAccessException thrown) {
            Desk.must(false, method.getName() + " threw " + thrown.getCause());
        }
    }

    /** LABELS 0 .. 11, i below j, i and j of the sentence: just inside, just outside, and what comes next. */
    static void item(OfItem call) {
        Desk d = new Desk(ALL, "aaaaaaaa");
        for (int label : new int[] {0, 11}) {
            for (int[] span : new int[][] {{0, 1}, {7, 8}, {0, 8}, {6, 8}}) {
                d.due("label " + label + " is there", call.of(d.x, label, span[0], span[1]) == REFUSED ? 1 : 0, 0);
            }
        }
        long answer = call.of(d.x, 0, 0, 8);
        String before = d.picture();
        for (int label : WRONG_LABELS) {
            d.due("label " + label, call.of(d.x, label, 0, 8), REFUSED);
        }
        for (int[] span : WRONG_SPANS) {
            d.due("span " + span[0] + " .. " + span[1], call.of(d.x, 0, span[0], span[1]), REFUSED);
        }
        d.due("all stays", d.picture(), before);
        d.due("the next call", call.of(d.x, 0, 0, 8), answer);
        d.say("a");
        d.due("one letter", call.of(d.x, 0, 0, 1) == REFUSED ? 1 : 0, 0);
        d.due("behind it", call.of(d.x, 0, 1, 2), REFUSED).due("longer", call.of(d.x, 0, 0, 2), REFUSED);
        d.due("nothing", call.of(d.x, 0, 1, 1), REFUSED);
        d.say("");
        d.due("no letters", call.of(d.x, 0, 0, 1), REFUSED).due("nothing", call.of(d.x, 0, 0, 0), REFUSED);
        d.due("ahead", call.of(d.x, 0, -1, 0), REFUSED);
        d.grammar("");
        d.say("a");
        d.due("a label without rules is there", call.of(d.x, 11, 0, 1) == REFUSED ? 1 : 0, 0);
    }
}
