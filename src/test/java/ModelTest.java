import java.util.Random;

/** Runs of calls, told by fixed seeds, on the program and on PlainModel: like calls, like answers. */
public final class ModelTest {
    private static final int RUNS = 700;
    private static final int CALLS = 70;
    private static int wrong = 0;
    private static int unknown = 0;
    private static int asked = 0;

    private final Random random;
    private final SpanValues program = new SpanValues();
    private final PlainModel model = new PlainModel();
    private final StringBuilder told = new StringBuilder();
    private int labels;
    private int letters;
    private int base = 2;

    private ModelTest(long seed) {
        random = new Random(seed);
    }

    public static void main(String[] args) {
        int runs = args.length > 1 ? Integer.parseInt(args[1]) : RUNS;
        long first = args.length > 2 ? Long.parseLong(args[2]) : 1;
        for (long seed = first; seed < first + runs && wrong < 5; seed++) {
            new ModelTest(seed).run(seed);
        }
        System.out.println(asked + " answers, " + wrong + " not as due, " + unknown + " too dear to know");
        if (wrong != 0 || unknown * 10 > asked) {
            System.exit(1);
        }
    }

    private void run(long seed) {
        labels = 1 + random.nextInt(random.nextInt(5) == 0 ? 12 : 5);
        letters = 1 + random.nextInt(3);
        loadGrammar();
        loadSentence();
        for (int call = 0; call < CALLS && wrong < 5; call++) {
            if (!callOne(seed)) {
                return;
            }
        }
    }

    // ---- texts ----

    private void load(String text) {
        told.append("\n  load \"").append(text).append('"');
        for (int at = 0; at < text.length(); at += 20) {
            int[] n = Desk.numbers(text, at);
            due("feed", program.feed(n[0], n[1], n[2], n[3], n[4]), model.feed(n));
        }
        due("end", program.end(text.length()), model.end(text.length()));
    }

    private void loadGrammar() {
        load(grammarText());
        due("grammar", program.grammar(), model.grammar());
        told.append(" grammar");
        due("fault 0", program.fault(0), model.fault(0));
        due("fault 1", program.fault(1), model.fault(1));
    }

    private void loadSentence() {
        StringBuilder text = new StringBuilder();
        int length = random.nextInt(12) == 0 ? random.nextInt(10) : 1 + random.nextInt(random.nextInt(4) == 0 ? 8 : 5);
        for (int at = 0; at < length; at++) {
            text.append(letter());
        }
        if (random.nextInt(20) == 0) {
            text.append((char) random.nextInt(256));
        }
        load(text.toString());
        due("say", program.say(), model.say());
        told.append(" say");
    }

    private char letter() {
        return (char) ('a' + random.nextInt(letters));
    }

    private char label() {
        return (char) ('A' + random.nextInt(labels));
    }

    private String part() {
        return random.nextInt(3) == 0 ? String.valueOf(letter()) : String.valueOf(label());
    }

    private String grammarText() {
        StringBuilder text = new StringBuilder();
        base = 2;
        if (random.nextInt(2) == 0) {
            base = 2 + random.nextInt(4);
            text.append("table ").append(base).append(" zero ").append(random.nextInt(base)).append(" one ")
                .append(random.nextInt(base)).append(" plus");
            row(text, random.nextInt(3));
            text.append(" times");
            row(text, random.nextInt(4) - 1);
            text.append(";");
        }
        int rules = 1 + random.nextInt(random.nextInt(8) == 0 ? 39 : 10);
        int unaries = 1 + random.nextInt(8);
        for (int rule = 0; rule < rules && text.length() < 960; rule++) {
            text.append("rule ").append(label()).append(" = ");
            int kind = random.nextInt(10);
            if (kind < unaries / 2) {
                text.append(label());
            } else if (kind < 5) {
                text.append(letter());
            } else {
                text.append(part()).append(' ').append(part());
            }
            if (random.nextInt(2) == 0) {
                text.append(" cost ").append(1 + random.nextInt(random.nextInt(9) == 0 ? 99 : 4));
            }
            if (random.nextInt(2) == 0) {
                text.append(" as ").append(random.nextInt(base));
            }
            text.append(random.nextInt(9) == 0 ? " ;\n" : ";");
        }
        if (random.nextInt(8) == 0) {
            spoil(text);
        }
        return text.length() > 1000 ? "" : text.toString();
    }

    /** Kind -1, 0: whatever; 1: the least or the greatest; 2: modulo. */
    private void row(StringBuilder text, int kind) {
        for (int a = 0; a < base; a++) {
            for (int b = 0; b < base; b++) {
                int d = kind == 1 ? Math.max(a, b) : kind == 2 ? (a + b) % base : kind == 3 ? a * b % base
                    : random.nextInt(base);
                text.append(' ').append(d);
            }
        }
    }

    private void spoil(StringBuilder text) {
        int at = random.nextInt(text.length());
        switch (random.nextInt(4)) {
            case 0:
                text.deleteCharAt(at);
                break;
            case 1:
                text.setCharAt(at, (char) random.nextInt(256));
                break;
            case 2:
                text.insert(at, "0123456789;= aAM\t".charAt(random.nextInt(17)));
                break;
            default:
                text.setLength(at);
        }
    }

    // ---- calls ----

    private int off(int low, int high) {
        return random.nextInt(25) == 0 ? random.nextBoolean() ? low - 1 - random.nextInt(3) : high + random.nextInt(3)
            : low + random.nextInt(Math.max(1, high - low));
    }

    private boolean callOne(long seed) {
        int label = off(0, random.nextInt(5) == 0 ? 12 : labels);
        int length = model.count(1);
        int i = off(0, length);
        int j = off(i + 1, length + 1);
        if (random.nextInt(3) == 0) {
            i = 0;
            j = length;
        }
        int k = off(0, random.nextInt(3) == 0 ? 16 : 4);
        int l = off(0, 16);
        int rule = off(0, model.count(0));
        int n = off(0, 12);
        int call = random.nextInt(44);
        told.append("\n  call ").append(call).append(" label ").append(label).append(" i ").append(i).append(" j ")
            .append(j).append(" k ").append(k).append(" l ").append(l).append(" rule ").append(rule).append(" n ").append(n);
        int before = wrong;
        boolean on = call < 22 ? ofItem(call, label, i, j, k) : ofMore(call, new int[] {label, i, j, k, l}, rule, n);
        if (wrong != before) {
            System.out.println("seed " + seed + ":" + told);
        }
        return on;
    }

    private boolean ofItem(int call, int label, int i, int j, int k) {
        int what = off(0, 2);
        switch (call) {
            case 0: case 1:
                return due("can", program.can(label, i, j), model.can(label, i, j));
            case 2: case 3:
                return due("least", program.least(label, i, j), model.least(label, i, j));
            case 4: case 5:
                return due("ways", program.ways(label, i, j), model.ways(label, i, j));
            case 6:
                return due("dearest", program.dearest(label, i, j), model.dearest(label, i, j));
            case 7: case 8:
                return due("used " + what, program.used(label, i, j, what), model.used(label, i, j, what));
            case 9: case 10:
                return due("sum", program.sum(label, i, j), model.sum(label, i, j));
            case 11: case 12:
                return due("value", program.value(label, i, j), model.value(label, i, j));
            case 13:
                what = off(0, 3);
                return due("cases " + what, program.cases(label, i, j, what), model.cases(label, i, j, what));
            case 14: case 15:
                return due("best", program.best(label, i, j, k), model.best(label, i, j, k));
            case 16: case 17:
                return due("size " + what, program.size(label, i, j, k, what), model.size(label, i, j, k, what));
            case 18: case 19:
                return due("tell", program.tell(label, i, j, k), model.tell(label, i, j, k))
                    && due("text", text(), true) && due("count 8", program.count(8), model.count(8));
            default:
                int c = off(0, random.nextInt(3) == 0 ? 301 : 30);
                return due("cheap " + c, program.cheap(label, i, j, c), model.cheap(label, i, j, c));
        }
    }

    private boolean text() {
        for (int at = -1; at <= model.count(8); at++) {
            if (program.octet(at) != model.octet(at)) {
                return false;
            }
        }
        return true;
    }

    private boolean ofMore(int call, int[] a, int rule, int n) {
        switch (call) {
            case 22: case 23:
                return due("step", program.step(a[0], a[1], a[2], a[3], n), model.step(a[0], a[1], a[2], a[3], n));
            case 24:
                return bounds(a[3], n, off(0, 3));
            case 25:
                return due("alike", program.alike(a[0], a[1], a[2], a[3], a[4]),
                    model.alike(a[0], a[1], a[2], a[3], a[4]));
            case 26:
                return due("rounds", program.rounds(), model.rounds());
            case 27: case 28:
                return due("laws", program.laws(), model.laws());
            case 29:
                int what = off(0, 4);
                int place = off(0, 30);
                return due("settled " + place + " " + what, program.settled(place, what), model.settled(place, what));
            case 30: case 31:
                return due("without", program.without(rule), model.without(rule));
            case 32:
                return due("heads", program.heads(), model.heads());
            case 33:
                return due("mends", program.mends(), model.mends());
            case 34:
                what = off(0, 3);
                return due("mend " + what, program.mend(what), model.mend(what));
            case 35:
                return due("rings", program.rings(), model.rings());
            case 36:
                return due("alive", program.alive(), model.alive());
            default:
                return change(call, rule);
        }
    }

    private boolean bounds(int k, int n, int what) {
        return due("bounds " + what, program.bounds(k, n, what), model.bounds(k, n, what));
    }

    private boolean change(int call, int rule) {
        int what = off(0, 10);
        int on = off(0, 2);
        int cost = off(1, random.nextInt(4) == 0 ? 100 : 5);
        int element = off(0, base);
        switch (call) {
            case 37:
                return due("drops " + on, program.drops(rule, on), model.drops(rule, on));
            case 38:
                return due("prices " + cost, program.prices(rule, cost), model.prices(rule, cost));
            case 39:
                return due("elements " + element, program.elements(rule, element), model.elements(rule, element));
            case 40:
                return due("count " + what, program.count(what), model.count(what));
            case 41:
                what = off(0, 6);
                return due("rule " + what, program.rule(rule, what), model.rule(rule, what));
            case 42:
                int other = off(0, base);
                return due("table " + on, program.table(on, element, other), model.table(on, element, other));
            default:
                if (random.nextInt(3) == 0) {
                    loadGrammar();
                } else {
                    loadSentence();
                }
                return true;
        }
    }

    private boolean due(String call, boolean got, boolean want) {
        return due(call, got ? 1 : 0, want ? 1 : 0);
    }

    /** False if the model can't tell: then the run ends. */
    private boolean due(String call, long got, long want) {
        asked++;
        if (want == PlainModel.UNKNOWN) {
            unknown++;
            return !call.equals("tell");
        }
        if (got != want) {
            wrong++;
            told.append("\n  ").append(call).append(" answered ").append(got).append(", due is ").append(want);
        }
        return true;
    }
}
