/** A program under test, with texts in place of numbers. */
final class Desk {
    private static int wrong = 0;
    private static String test = "";

    final SpanValues x = new SpanValues();
    private final String name;

    /** Named as the test that runs. */
    Desk() {
        this(test);
    }

    Desk(String grammar, String sentence) {
        this(test, grammar, sentence);
    }

    Desk(String name) {
        this.name = name;
    }

    /** With a grammar and a sentence that have no faults. */
    Desk(String name, String grammar, String sentence) {
        this(name);
        due("the grammar has no fault", grammar(grammar) >= 0 ? 1 : 0, 1);
        due("the sentence has no fault", say(sentence), sentence.length());
    }

    Desk due(String call, long got, long want) {
        if (got != want) {
            wrong++;
            System.out.println(name + ": " + call + " answered " + got + ", due is " + want);
        }
        return this;
    }

    Desk due(String call, String got, String want) {
        return due(call + " is '" + want + "', not '" + got + "'", got.equals(want) ? 1 : 0, 1);
    }

    /** The tape is empty first, and has just the text then. */
    void load(String text) {
        x.end(0);
        for (int at = 0; at < text.length(); at += 20) {
            int[] n = numbers(text, at);
            x.feed(n[0], n[1], n[2], n[3], n[4]);
        }
        x.end(text.length());
    }

    /** What feed is told for twenty bytes of a text; behind its end zeros. */
    static int[] numbers(String text, int from) {
        int[] n = new int[5];
        for (int k = 0; k < 20; k++) {
            int sign = from + k < text.length() ? text.charAt(from + k) : 0;
            n[k / 4] = n[k / 4] << 8 | sign;
        }
        return n;
    }

    int grammar(String text) {
        load(text);
        return x.grammar();
    }

    int say(String text) {
        load(text);
        return x.say();
    }

    /** What is told in OUT, all of it. */
    String out() {
        StringBuilder text = new StringBuilder();
        for (int at = 0; x.octet(at) != SpanValues.NONE; at++) {
            text.append((char) x.octet(at));
        }
        return text.toString();
    }

    /** What all calls but those on the tape and its faults tell: no refused call changes it. */
    String picture() {
        StringBuilder text = new StringBuilder();
        for (int what = 0; what < 10; what++) {
            text.append(what == 7 ? 0 : x.count(what)).append(' ');
        }
        for (int rule = 0; rule < x.count(0); rule++) {
            for (int what = 0; what < 6; what++) {
                text.append(x.rule(rule, what)).append(what == 5 ? '\n' : ' ');
            }
        }
        for (int a = 0; a < x.count(3); a++) {
            for (int b = 0; b < x.count(3); b++) {
                text.append(x.table(0, a, b)).append(x.table(1, a, b)).append(' ');
            }
        }
        for (int k = 0; k < 8; k++) {
            for (int what = 0; what < 4; what++) {
                text.append(x.settled(k, what)).append(' ');
            }
        }
        text.append(x.rounds()).append(' ').append(x.laws()).append(' ').append(x.heads()).append(' ');
        text.append(x.mends()).append(' ').append(x.mend(0)).append(' ').append(x.mend(1)).append(' ').append(x.mend(2));
        text.append(' ').append(x.rings()).append(' ').append(x.alive()).append(' ').append(x.bounds(0, 1, 2));
        return text.append('\n').append(out()).toString();
    }

    /** All that is told of one item. */
    String ofItem(int label, int i, int j) {
        return x.can(label, i, j) + " " + x.least(label, i, j) + " " + x.ways(label, i, j) + " " + x.dearest(label, i, j)
            + " " + x.used(label, i, j, 0) + " " + x.used(label, i, j, 1) + " " + x.sum(label, i, j) + " "
            + x.value(label, i, j) + " " + x.cases(label, i, j, 0) + " " + x.cases(label, i, j, 1) + " "
            + x.cases(label, i, j, 2) + " " + x.best(label, i, j, 0) + " " + x.best(label, i, j, 7) + " "
            + x.step(label, i, j, 7, 1) + " " + x.size(label, i, j, 7, 0) + " " + x.cheap(label, i, j, 30) + " "
            + x.alike(label, i, j, 0, 1);
    }

    /** All that is told of A, B and C over each span, of what is settled, of START and of the grammar. */
    String answers() {
        StringBuilder text = new StringBuilder();
        for (int label = 0; label < 3; label++) {
            for (int i = 0; i < x.count(1); i++) {
                for (int j = i + 1; j <= x.count(1); j++) {
                    text.append(ofItem(label, i, j)).append('\n');
                }
            }
        }
        for (int k = 0; k < 10; k++) {
            text.append(x.settled(k, 0)).append(x.settled(k, 1)).append(x.settled(k, 2)).append(x.settled(k, 3)).append(' ');
        }
        return text + " " + x.count(1) + " " + x.count(2) + " " + x.count(6) + " " + x.count(9) + " " + x.rounds() + " "
            + x.laws() + " " + x.heads() + " " + x.mends() + " " + x.mend(0) + " " + x.mend(1) + " " + x.mend(2) + " "
            + x.rings() + " " + x.alive() + " " + x.without(0) + " " + x.without(4) + " " + x.bounds(0, 0, 1) + " "
            + x.bounds(9, 2, 0);
    }

    /** The text of a tree, or its answer if it is refused. */
    String tree(int label, int i, int j, int k) {
        int length = x.tell(label, i, j, k);
        return length < 0 ? String.valueOf(length) : out();
    }

    /** Desks made from now on are named so. */
    static void about(String name) {
        test = name;
    }

    static void must(boolean holds, String otherwise) {
        if (!holds) {
            wrong++;
            System.out.println(otherwise);
        }
    }

    static void finish() {
        System.out.println(wrong == 0 ? "all answers are as due" : wrong + " answers are not as due");
        if (wrong != 0) {
            System.exit(1);
        }
    }
}
