import java.util.Random;

/** Whatever numbers a call is told, in whatever state: it ends without an exception, and like calls answer alike. */
public final class AnyCallTest {
    private static final int OBJECTS = 400;
    private static final int CALLS = 512;
    private static final int KINDS = 36;
    private static final int[] ODD = {Integer.MIN_VALUE, Integer.MIN_VALUE + 1, -1000, -2, -1, 0, 1, 2, 7, 8, 9, 11, 12, 15, 16,
        25, 26, 39, 40, 99, 100, 125, 300, 301, 999, 1000, 1001, 1 << 16, 1 << 30, Integer.MAX_VALUE - 1, Integer.MAX_VALUE};
    private static final String[] PIECES = {"rule ", "A", "B", "L", "=", "a", "b", ";", " cost ", " as ", "0", "1", "5", "99", "100",
        "table 2 zero 0 one 1 plus 0 1 1 0 times 0 0 0 1;", "rule A=AA;", "rule A=a;", "rule A=B;", "rule B=A;", "rule B=Ab cost 7;",
        "rule L=L;", "rule A=b as 0;", "\n", "M", "?", "zz"};

    private static int told = 0;

    private final Random random;
    private final SpanValues one = new SpanValues();
    private final SpanValues other = new SpanValues();

    private AnyCallTest(long seed) {
        random = new Random(seed);
    }

    public static void main(String[] args) {
        int objects = args.length > 1 ? Integer.parseInt(args[1]) : OBJECTS;
        long first = args.length > 2 ? Long.parseLong(args[2]) : 1;
        for (long seed = first; seed < first + objects; seed++) {
            new AnyCallTest(seed).run(seed);
        }
        System.out.println(objects + " objects, " + CALLS + " calls each, " + told + " told a number above 0");
        Desk.must(told > objects * CALLS / 8, "too few calls told something");
        Desk.finish();
    }

    private void run(long seed) {
        int call = 0;
        while (call < CALLS) {
            if (random.nextInt(30) == 0) {
                call += load();
                continue;
            }
            int kind = random.nextInt(KINDS);
            if ((kind == 2 || kind == 4) && random.nextInt(8) > 0) {
                // Most texts come by load: an empty one would leave little to ask for.
                continue;
            }
            int[] n = new int[5];
            for (int at = 0; at < n.length; at++) {
                n[at] = number();
            }
            long got = ask(one, kind, n);
            told += got > 0 ? 1 : 0;
            Desk.must(got == ask(other, kind, n), "seed " + seed + ", call " + call + " of kind " + kind + " is not alike");
            call++;
        }
    }

    private int number() {
        int kind = random.nextInt(8);
        return kind == 0 ? random.nextInt() : kind < 3 ? ODD[random.nextInt(ODD.length)] : random.nextInt(kind < 6 ? 3 : 10);
    }

    /** A text of rules, or of a sentence; how many calls that were. */
    private int load() {
        StringBuilder text = new StringBuilder();
        boolean sentence = random.nextBoolean();
        for (int piece = random.nextInt(sentence ? 10 : 40); piece > 0; piece--) {
            boolean whole = random.nextInt(150) > 0;
            text.append(sentence ? "ab".charAt(random.nextInt(2)) : PIECES[whole ? 16 + random.nextInt(7) : random.nextInt(27)]);
        }
        int calls = 3;
        one.end(0);
        other.end(0);
        for (int at = 0; at < text.length(); at += 20) {
            int[] n = Desk.numbers(text.toString(), at);
            one.feed(n[0], n[1], n[2], n[3], n[4]);
            other.feed(n[0], n[1], n[2], n[3], n[4]);
            calls++;
        }
        one.end(text.length());
        other.end(text.length());
        int kind = sentence ? 4 : 2;
        Desk.must(ask(one, kind, new int[5]) == ask(other, kind, new int[5]), "texts are not alike");
        return calls;
    }

    private static long ask(SpanValues x, int kind, int[] n) {
        return kind < 18 ? askFirst(x, kind, n) : askLast(x, kind, n);
    }

    private static long askFirst(SpanValues x, int kind, int[] n) {
        switch (kind) {
            case 0: return x.feed(n[0], n[1], n[2], n[3], n[4]);
            case 1: return x.end(n[0]);
            case 2: return x.grammar();
            case 3: return x.fault(n[0]);
            case 4: return x.say();
            case 5: return x.count(n[0]);
            case 6: return x.rule(n[0], n[1]);
            case 7: return x.table(n[0], n[1], n[2]);
            case 8: return x.drops(n[0], n[1]);
            case 9: return x.prices(n[0], n[1]);
            case 10: return x.elements(n[0], n[1]);
            case 11: return x.can(n[0], n[1], n[2]);
            case 12: return x.least(n[0], n[1], n[2]);
            case 13: return x.ways(n[0], n[1], n[2]);
            case 14: return x.dearest(n[0], n[1], n[2]);
            case 15: return x.used(n[0], n[1], n[2], n[3]);
            case 16: return x.sum(n[0], n[1], n[2]);
            default: return x.value(n[0], n[1], n[2]);
        }
    }

    private static long askLast(SpanValues x, int kind, int[] n) {
        switch (kind) {
            case 18: return x.rounds();
            case 19: return x.laws();
            case 20: return x.cases(n[0], n[1], n[2], n[3]);
            case 21: return x.settled(n[0], n[1]);
            case 22: return x.best(n[0], n[1], n[2], n[3]);
            case 23: return x.size(n[0], n[1], n[2], n[3], n[4]);
            case 24: return x.step(n[0], n[1], n[2], n[3], n[4]);
            case 25: return x.bounds(n[0], n[1], n[2]);
            case 26: return x.tell(n[0], n[1], n[2], n[3]);
            case 27: return x.octet(n[0]);
            case 28: return x.cheap(n[0], n[1], n[2], n[3]);
            case 29: return x.alike(n[0], n[1], n[2], n[3], n[4]);
            case 30: return x.without(n[0]);
            case 31: return x.heads();
            case 32: return x.mends();
            case 33: return x.mend(n[0]);
            case 34: return x.rings();
            default: return x.alive();
        }
    }
}
