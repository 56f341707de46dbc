/** For each promise of the document: ordinary calls, its edges, and wrong inputs. Answers are found by hand. */
public final class PromisesTest {
    private static final int NONE = SpanValues.NONE;
    private static final int ENDLESS = SpanValues.ENDLESS;
    private static final int TOO_GREAT = SpanValues.TOO_GREAT;
    private static final int UNSETTLED = SpanValues.UNSETTLED;
    private static final int NOT_THERE = -2;
    private static final int FAULTY = -4;

    /** Rules 0 .. 4: two trees for three a, more with a ring by B. */
    private static final String PAIRS = "rule A = A A cost 2;rule A = a;";
    private static final String RING = "rule A = A A cost 2;rule A = a;rule A = B cost 3;rule B = A cost 4;rule B = b cost 5;";
    private static final String MODULO_3 =
        "table 3 zero 0 one 1 plus 0 1 2 1 2 0 2 0 1 times 0 0 0 0 1 2 0 2 1;";

    public static void main(String[] args) {
        newObject();
        feed();
        end();
        grammar();
        faults();
        faultsOfTables();
        tooManyRules();
        say();
        count();
        rule();
        table();
        drops();
        prices();
        elements();
        can();
        least();
        ways();
        dearest();
        used();
        sum();
        value();
        rounds();
        laws();
        cases();
        settled();
        best();
        order();
        size();
        step();
        bounds();
        tell();
        octet();
        cheap();
        alike();
        without();
        heads();
        mends();
        mend();
        rings();
        alive();
        Desk.finish();
    }

    private static void newObject() {
        Desk d = new Desk("1 a new object");
        d.due("RULES", d.x.count(0), 0).due("LETTERS", d.x.count(1), 0).due("START", d.x.count(2), NONE);
        d.due("N", d.x.count(3), 2).due("zero", d.x.count(4), 0).due("one", d.x.count(5), 1);
        d.due("ITEMS", d.x.count(6), 0).due("TAPE", d.x.count(7), 0).due("OUT", d.x.count(8), 0);
        d.due("fault 0", d.x.fault(0), 0).due("fault 1", d.x.fault(1), NONE);
        d.due("can", d.x.can(0, 0, 1), NOT_THERE).due("rounds", d.x.rounds(), 1).due("laws", d.x.laws(), 511);
    }

    private static void feed() {
        Desk d = new Desk("2 feed");
        d.due("first", d.x.feed(0x72756c65, 0x20413d61, 0x3b20200a, 0x20202020, 0x20202020), 20);
        d.due("bytes, the highest first", d.x.grammar(), 1);
        d.due("its rule", d.x.rule(0, 1), 100);
        for (int n = 1; n <= 50; n++) {
            d.due("so many", d.x.feed(-1, -2, 0, 7, Integer.MIN_VALUE), 20 * n);
        }
        d.due("more than 1000", d.x.feed(0, 0, 0, 0, 0), NONE).due("none came", d.x.count(7), 1000);
        d.due("one less", d.x.end(981), 981).due("1001", d.x.feed(0, 0, 0, 0, 0), NONE);
        d.due("still", d.x.count(7), 981).due("1000", d.x.end(980) + d.x.feed(0, 0, 0, 0, 0), 1980);
        d.due("a byte of 255", d.x.grammar(), FAULTY).due("at 0", d.x.fault(1), 0);
    }

    private static void end() {
        Desk d = new Desk("3 end");
        d.due("nothing", d.x.end(0), 0).due("too many", d.x.end(1), NONE).due("below 0", d.x.end(-1), NONE);
        d.x.feed(0x61626364, 0, 0, 0, 0);
        d.due("all", d.x.end(20), 20).due("too many", d.x.end(21), NONE).due("stays", d.x.count(7), 20);
        d.due("below 0", d.x.end(Integer.MIN_VALUE), NONE).due("three", d.x.end(3), 3).due("four", d.x.end(4), NONE);
        d.due("abc", d.x.say(), 3).due("empty then", d.x.count(7), 0);
    }

    private static void grammar() {
        Desk d = new Desk("4 grammar");
        d.due("empty", d.grammar(""), 0).due("blanks", d.grammar(" \n "), 0);
        d.say("ab");
        d.due("two", d.grammar(MODULO_3 + "rule A=a;rule B=A B cost 7 as 2;"), 2);
        d.due("N", d.x.count(3), 3).due("sentence stays", d.x.count(1), 2).due("tape is empty", d.x.count(7), 0);
        d.x.drops(1, 1);
        d.due("fault", d.grammar("rule A=a;rule"), FAULTY).due("rules stay", d.x.count(0), 2);
        d.due("N stays", d.x.count(3), 3).due("out stays", d.x.rule(1, 5), 1).due("tape is empty", d.x.count(7), 0);
        d.due("cost stays", d.x.rule(1, 3), 7);
        d.due("another", d.grammar("rule C = c;rule C = d;"), 2).due("none is out", d.x.rule(1, 5), 0);
        d.due("the table without one", d.x.count(3), 2).due("one and one", d.x.table(0, 1, 1), 1);
        d.due("a table alone", d.grammar(Grammars.FLIP), 0).due("its sum", d.x.table(0, 1, 1), 0);
        d.due("blanks and none", d.grammar("\nrule\nA\n=\na B\ncost5as0;ruleL=Lz;"), 2);
        d.due("cost", d.x.rule(0, 3), 5).due("L", d.x.rule(1, 0), 11).due("z", d.x.rule(1, 2), 125);
    }

    private static void dueFault(String text, int number, int place) {
        Desk d = new Desk("5 fault");
        d.due("'" + text + "'", d.grammar(text), FAULTY);
        d.due("number of '" + text + "'", d.x.fault(0), number).due("place of '" + text + "'", d.x.fault(1), place);
    }

    private static void dueFine(String text, int rules) {
        Desk d = new Desk("5 fault");
        d.due("'" + text + "'", d.grammar(text), rules);
        d.due("number of '" + text + "'", d.x.fault(0), 0).due("place of '" + text + "'", d.x.fault(1), NONE);
    }

    private static void faults() {
        Desk d = new Desk("5 fault");
        d.due("what 2", d.x.fault(2), NONE).due("what -1", d.x.fault(-1), NONE);
        d.grammar(" x");
        d.due("1", d.x.fault(0), 1).due("at 1", d.x.fault(1), 1).due("what 2", d.x.fault(2), NONE);
        d.say("?");
        d.due("not of say", d.x.fault(0), 1);
        d.grammar("");
        d.due("of the latest", d.x.fault(0), 0).due("no place", d.x.fault(1), NONE);
        String[] ends = {"rule", "rule A", "rule A =", "rule A = a", "rule A = a b", "rule A = a cost 5", "rule A = a  "};
        for (String text : ends) {
            dueFault(text, 1, text.length());
        }
        dueFault(";", 1, 0);
        dueFault("Rule A = a;", 1, 0);
        dueFault("rules A = a;", 1, 0);
        dueFault("mule A = a;", 1, 0);
        dueFault("rule A = a most 5;", 1, 11);
        dueFault("rule A = a is 1;", 1, 11);
        dueFault("cable 2 zero 0", 1, 0);
        dueFault("\trule A = a;", 1, 0);
        dueFault("5 rule A = a;", 1, 0);
        dueFault("rule M = a;", 1, 5);
        dueFault("rule a = a;", 1, 5);
        dueFault("rule AA = a;", 1, 6);
        dueFault("rule A : a;", 1, 7);
        dueFault("rule A = ;", 1, 9);
        dueFault("rule A = ab;", 1, 9);
        dueFault("rule A = cost 5;", 1, 9);
        dueFault("rule A = 5;", 1, 9);
        dueFault("rule A = a b c;", 1, 13);
        dueFault("rule A = a 5;", 1, 11);
        dueFault("rule A = a cost;", 1, 15);
        dueFault("rule A = a cost b;", 1, 16);
        dueFault("rule A = a cost 0;", 2, 16);
        dueFault("rule A = a cost 100;", 2, 16);
        dueFault("rule A = a cost 4294967297;", 2, 16);
        dueFault("rule A = a cost 18446744073709551617;", 2, 16);
        dueFault("rule A = a cost 5 5;", 1, 18);
        dueFault("rule A = a cost 5 cost 5;", 1, 18);
        dueFault("rule A = a as 2;", 2, 14);
        dueFault("rule A = a as 1 cost 2;", 1, 16);
        dueFault("rule A = a;;", 1, 11);
        dueFault("rule A = a;rule A = a cost 0; rule M", 2, 27);
        dueFault("rule A = a" + (char) 200 + ";", 1, 10);
        dueFine("rule A = a cost 99;rule A = b cost 1 as 0;rule A = c as 1;", 3);
        dueFine("rule A = a cost 000000000000000000000007;", 1);
    }

    private static void faultsOfTables() {
        String head = "table 2 zero 0 one 1 plus 0 1 1 1 times 0 0 0 1";
        dueFault(head, 1, head.length());
        dueFault(head + " 1;", 1, 48);
        dueFault(head + " 9;", 1, 48);
        dueFault(head + ";" + head + ";", 1, 48);
        dueFault("rule A = a;" + head + ";", 1, 11);
        dueFault("table 1 zero 0", 2, 6);
        dueFault("table 6 zero 0", 2, 6);
        dueFault("table x zero 0", 1, 6);
        dueFault("table 2 one 0", 1, 8);
        dueFault("table 2 zero 2 one 0", 2, 13);
        dueFault("table 3 zero 2 one 3 plus", 2, 19);
        dueFault("table 2 zero 0 one 1 times", 1, 21);
        dueFault("table 2 zero 0 one 1 plus 0 1 1 times", 1, 32);
        dueFault("table 2 zero 0 one 1 plus 0 1 1 2 times", 2, 32);
        dueFault("table 2 zero 0 one 1 plus 0 1 1 1 times 0 0 2 0;", 2, 44);
        dueFault("table 2 zero 0 one 1 plus 0 1 1 1 times 0 0 0;", 1, 45);
        dueFault(MODULO_3 + "rule A = a as 3;", 2, MODULO_3.length() + 14);
        dueFine(head + ";", 0);
        dueFine(MODULO_3 + "rule A = a as 2;", 1);
        StringBuilder five = new StringBuilder("table 5 zero 4 one 3 plus");
        five.append(" 4".repeat(25)).append(" times").append(" 0".repeat(25)).append(";rule A=a;");
        dueFine(five.toString(), 1);
        Desk d = new Desk("5 fault", five.toString(), "");
        d.due("E without as: the one", d.x.rule(0, 4), 3);
    }

    private static void tooManyRules() {
        String forty = "rule A=a;".repeat(40);
        dueFine(forty, 40);
        dueFault(forty + "rule A=a;", 3, 360);
        dueFault(forty + "  rule", 3, 362);
        dueFault(forty + "rules", 1, 360);
        dueFault("rule A=?;" + forty, 1, 7);
    }

    private static void say() {
        Desk d = new Desk("6 say");
        d.due("eight", d.say("abcdwxyz"), 8).due("nine", d.say("abcdefghi"), FAULTY).due("stays", d.x.count(1), 8);
        d.due("the tape is empty", d.x.count(7), 0).due("a blank", d.say("a b"), FAULTY);
        d.due("a great letter", d.say("aB"), FAULTY).due("behind z", d.say("{"), FAULTY);
        d.due("ahead of a", d.say("`"), FAULTY).due("stays", d.x.count(1), 8);
        d.due("none", d.say(""), 0).due("no letters", d.x.count(1), 0);
    }

    private static void count() {
        Desk d = new Desk("7 count", MODULO_3 + "rule C = C C;rule C = a;rule D = C;", "aab");
        d.due("RULES", d.x.count(0), 3).due("LETTERS", d.x.count(1), 3).due("START", d.x.count(2), 2);
        d.due("N", d.x.count(3), 3).due("zero", d.x.count(4), 0).due("one", d.x.count(5), 1);
        d.due("ITEMS: C and D over a, a, aa", d.x.count(6), 6).due("in", d.x.count(9), 3);
        d.x.feed(0, 0, 0, 0, 0);
        d.due("TAPE", d.x.count(7), 20).due("OUT", d.x.count(8), 0);
        d.x.tell(2, 0, 1, 0);
        d.due("(C a)", d.x.count(8), 5).due("10", d.x.count(10), NONE).due("-1", d.x.count(-1), NONE);
        d.x.drops(0, 1);
        d.due("one out", d.x.count(9), 2).due("RULES", d.x.count(0), 3).due("START stays", d.x.count(2), 2);
        d.due("ITEMS", d.x.count(6), 4);
    }

    private static void rule() {
        Desk d = new Desk("8 rule", "rule A = L z cost 99 as 0;rule L = a;rule B = C;", "");
        int[][] want = {{0, 11, 125, 99, 0, 0}, {11, 100, NONE, 1, 1, 0}, {1, 2, NONE, 1, 1, 0}};
        for (int rule = 0; rule < 3; rule++) {
            for (int what = 0; what < 6; what++) {
                d.due("rule " + rule + " " + what, d.x.rule(rule, what), want[rule][what]);
            }
        }
        d.x.drops(1, 1);
        d.due("out", d.x.rule(1, 5), 1).due("what 6", d.x.rule(0, 6), NOT_THERE);
        d.due("what -1", d.x.rule(0, -1), NOT_THERE).due("no such", d.x.rule(3, 0), NOT_THERE);
        d.due("below 0", d.x.rule(-1, 0), NOT_THERE).due("40", d.x.rule(40, 0), NOT_THERE);
    }

    private static void table() {
        Desk d = new Desk("9 table", "table 3 zero 0 one 1 plus 0 1 2 2 1 0 0 0 1 times 0 0 0 2 2 1 1 1 2;", "");
        d.due("1 + 0", d.x.table(0, 1, 0), 2).due("0 + 1", d.x.table(0, 0, 1), 1).due("2 + 2", d.x.table(0, 2, 2), 1);
        d.due("1 * 2", d.x.table(1, 1, 2), 1).due("2 * 1", d.x.table(1, 2, 1), 1).due("1 * 0", d.x.table(1, 1, 0), 2);
        d.due("a 3", d.x.table(0, 3, 0), NOT_THERE).due("b 3", d.x.table(1, 0, 3), NOT_THERE);
        d.due("a -1", d.x.table(0, -1, 0), NOT_THERE).due("b -1", d.x.table(1, 0, -1), NOT_THERE);
        d.due("what 2", d.x.table(2, 0, 0), NOT_THERE).due("what -1", d.x.table(-1, 0, 0), NOT_THERE);
        Desk e = new Desk("9 the table without one");
        for (int a = 0; a < 2; a++) {
            for (int b = 0; b < 2; b++) {
                e.due("or", e.x.table(0, a, b), a | b).due("and", e.x.table(1, a, b), a & b);
            }
        }
    }

    private static void drops() {
        Desk d = new Desk("10 drops", PAIRS, "aa");
        d.due("in", d.x.drops(0, 0), 0).due("out", d.x.drops(0, 1), 1).due("again", d.x.drops(0, 1), 0);
        d.due("no tree", d.x.can(0, 0, 2), 0).due("no case", d.x.cases(0, 0, 2, 0), 0);
        d.due("in again", d.x.drops(0, 0), 1).due("a tree", d.x.can(0, 0, 2), 1);
        d.due("no such", d.x.drops(2, 1), NOT_THERE).due("below", d.x.drops(-1, 0), NOT_THERE);
        d.due("on 2", d.x.drops(0, 2), NOT_THERE).due("on -1", d.x.drops(0, -1), NOT_THERE);
        d.due("nothing happened", d.x.rule(0, 5), 0);
    }

    private static void prices() {
        Desk d = new Desk("11 prices", PAIRS, "aa");
        d.due("4", d.x.least(0, 0, 2), 4).due("was 2", d.x.prices(0, 99), 2).due("101", d.x.least(0, 0, 2), 101);
        d.due("was 99", d.x.prices(0, 1), 99).due("dearest", d.x.dearest(0, 0, 2), 1);
        d.due("best", d.x.best(0, 0, 2, 0), 3).due("cheap", d.x.cheap(0, 0, 2, 3), 1).due("sum", d.x.sum(0, 0, 2), 1);
        d.due("0", d.x.prices(0, 0), NOT_THERE).due("100", d.x.prices(0, 100), NOT_THERE);
        d.due("no such", d.x.prices(2, 5), NOT_THERE).due("below", d.x.prices(-1, 5), NOT_THERE);
        d.due("stays", d.x.rule(0, 3), 1);
        d.x.prices(1, 7);
        d.due("15", d.x.least(0, 0, 2), 15).due("best", d.x.best(0, 0, 2, 0), 15).due("sum", d.x.sum(0, 0, 2), 49);
        d.due("cheap", d.x.cheap(0, 0, 2, 14), 0).due("settled", d.x.settled(0, 3), 7);
        d.due("mend", d.x.mend(2), NONE).due("without", d.x.without(0), NONE);
    }

    private static void elements() {
        Desk d = new Desk("12 elements", MODULO_3 + "rule A = a as 2;", "a");
        d.due("2", d.x.value(0, 0, 1), 2).due("was 2", d.x.elements(0, 0), 2).due("0", d.x.value(0, 0, 1), 0);
        d.due("was 0", d.x.elements(0, 1), 0).due("1", d.x.rule(0, 4), 1).due("3", d.x.elements(0, 3), NOT_THERE);
        d.due("-1", d.x.elements(0, -1), NOT_THERE).due("no such", d.x.elements(1, 0), NOT_THERE);
        d.due("below", d.x.elements(-1, 0), NOT_THERE).due("stays", d.x.rule(0, 4), 1);
    }

    /** What every call with an item refuses. */
    private static int[][] wrongItems(int letters) {
        return new int[][] {{-1, 0, 1}, {12, 0, 1}, {0, -1, 1}, {0, 0, letters + 1}, {0, 1, 1}, {0, 2, 1},
            {Integer.MAX_VALUE, 0, 1}, {0, Integer.MIN_VALUE, 1}, {0, 0, Integer.MAX_VALUE}, {0, letters, letters + 1}};
    }

    private static void can() {
        Desk d = new Desk("13 can", "rule A = A A;rule A = a;rule B = b A;rule C = B;rule L = C c;", "aabac");
        d.due("a", d.x.can(0, 0, 1), 1).due("aa", d.x.can(0, 0, 2), 1).due("aab", d.x.can(0, 0, 3), 0);
        d.due("ba", d.x.can(1, 2, 4), 1).due("ba by C", d.x.can(2, 2, 4), 1).due("ba by A", d.x.can(0, 2, 4), 0);
        d.due("bac", d.x.can(11, 2, 5), 1).due("c", d.x.can(11, 4, 5), 0).due("all", d.x.can(0, 0, 5), 0);
        for (int[] w : wrongItems(5)) {
            d.due("wrong", d.x.can(w[0], w[1], w[2]), NOT_THERE);
            d.due("wrong", d.x.least(w[0], w[1], w[2]), NOT_THERE);
            d.due("wrong", d.x.ways(w[0], w[1], w[2]), NOT_THERE);
            d.due("wrong", d.x.dearest(w[0], w[1], w[2]), NOT_THERE);
            d.due("wrong", d.x.used(w[0], w[1], w[2], 0), NOT_THERE);
            d.due("wrong", d.x.sum(w[0], w[1], w[2]), NOT_THERE);
            d.due("wrong", d.x.value(w[0], w[1], w[2]), NOT_THERE);
            d.due("wrong", d.x.cases(w[0], w[1], w[2], 0), NOT_THERE);
            d.due("wrong", d.x.best(w[0], w[1], w[2], 0), NOT_THERE);
            d.due("wrong", d.x.size(w[0], w[1], w[2], 0, 0), NOT_THERE);
            d.due("wrong", d.x.step(w[0], w[1], w[2], 0, 0), NOT_THERE);
            d.due("wrong", d.x.tell(w[0], w[1], w[2], 0), NOT_THERE);
            d.due("wrong", d.x.cheap(w[0], w[1], w[2], 0), NOT_THERE);
            d.due("wrong", d.x.alike(w[0], w[1], w[2], 0, 0), NOT_THERE);
        }
    }

    private static void least() {
        Desk d = new Desk("14 least", RING, "ab");
        d.due("a", d.x.least(0, 0, 1), 1).due("a by B", d.x.least(1, 0, 1), 5).due("b", d.x.least(1, 1, 2), 5);
        d.due("b by A", d.x.least(0, 1, 2), 8).due("ab", d.x.least(0, 0, 2), 11).due("B", d.x.least(1, 0, 2), 15);
        d.due("none", d.x.least(2, 0, 2), NONE);
        // Up and down the labels: one round over the rules is not enough.
        d.grammar("rule B = J;rule J = C;rule C = K;rule K = D;rule D = L;rule L = a cost 9;");
        d.say("a");
        d.due("B", d.x.least(1, 0, 1), 14).due("dearest", d.x.dearest(1, 0, 1), 9).due("ways", d.x.ways(1, 0, 1), 1);
        d.due("some", d.x.used(1, 0, 1, 0), 63).due("each", d.x.used(1, 0, 1, 1), 63);
        // The way round by B and C is cheaper than the rule itself.
        Desk e = new Desk("14 least", "rule A = a cost 50;rule A = B;rule B = C;rule C = a cost 3;rule C = A;", "a");
        e.due("A", e.x.least(0, 0, 1), 5).due("B", e.x.least(1, 0, 1), 4).due("C", e.x.least(2, 0, 1), 3);
    }

    private static void ways() {
        Desk d = new Desk("15 ways", PAIRS, "aaaaaaaa");
        d.due("1", d.x.ways(0, 0, 1), 1).due("2", d.x.ways(0, 0, 3), 2).due("429", d.x.ways(0, 0, 8), 429);
        d.due("0", d.x.ways(1, 0, 8), 0);
        Desk e = new Desk("15 ways", RING + "rule C = A;rule D = d;rule D = C D;rule E = E;rule F = d;", "ad");
        e.due("a ring", e.x.ways(0, 0, 1), ENDLESS).due("to a ring", e.x.ways(2, 0, 1), ENDLESS);
        e.due("with one part of a ring", e.x.ways(3, 0, 2), ENDLESS).due("d", e.x.ways(3, 1, 2), 1);
        e.due("a ring without trees", e.x.ways(4, 0, 1), 0).due("d", e.x.ways(5, 1, 2), 1);
        e.grammar(RING + "rule D = A E;rule D = E A;rule E = e;rule E = e cost 2;");
        e.say("aea");
        e.due("times two", e.x.ways(3, 0, 2), ENDLESS).due("two times", e.x.ways(3, 1, 3), ENDLESS);
        // Twelve labels, each on to the next by three rules: 3 to the 11th for each letter.
        StringBuilder text = new StringBuilder("rule A=AA;");
        for (int label = 0; label < 11; label++) {
            for (int k = 0; k < 3; k++) {
                text.append("rule ").append((char) ('A' + label)).append('=').append((char) ('B' + label)).append(';');
            }
        }
        text.append("rule L=a;");
        Desk f = new Desk("15 ways", text.toString(), "aaa");
        f.due("3^11", f.x.ways(0, 0, 1), 177147).due("3^22", f.x.ways(0, 0, 2), 31381059609L);
        f.due("2 * 3^33", f.x.ways(0, 0, 3), TOO_GREAT);
        Desk g = new Desk("15 ways", Grammars.EDGE, "aaaaaaab");
        g.due("10^15", g.x.ways(0, 0, 8), 1000000000000000L).due("10^15 + 1", g.x.ways(1, 0, 8), TOO_GREAT);
        g.due("10^13", g.x.ways(0, 1, 8), 10000000000000L).due("1", g.x.ways(2, 0, 8), 1);
        Desk h = new Desk("15 ways", powers(), "aaaaxaaa");
        h.due("2^36", h.x.ways(1, 0, 4), 1L << 36).due("2^27", h.x.ways(2, 4, 8), 1L << 27);
        h.due("2^63", h.x.ways(0, 0, 8), TOO_GREAT).due("as many cost 72", h.x.cheap(0, 0, 8, 72), TOO_GREAT);
        h.due("none is cheaper", h.x.cheap(0, 0, 8, 71), 0);
    }

    /** B has 2 to the 9th trees for each letter. */
    private static String powers() {
        StringBuilder text = new StringBuilder("rule A=BC;rule C=xB;rule B=DB;rule B=D;");
        for (char label = 'D'; label <= 'L'; label++) {
            char next = label == 'L' ? 'a' : (char) (label + 1);
            text.append(("rule " + label + "=" + next + ";").repeat(2));
        }
        return text.toString();
    }

    private static void dearest() {
        Desk d = new Desk("16 dearest", RING, "ab");
        d.due("a", d.x.dearest(0, 0, 1), 1).due("B over a", d.x.dearest(1, 0, 1), 4).due("ab", d.x.dearest(0, 0, 2), 5);
        d.due("none", d.x.dearest(2, 0, 2), NONE);
        Desk e = new Desk("16 dearest", "rule A = a cost 9;rule A = B cost 5;rule B = C cost 4;rule C = a cost 5;", "a");
        e.due("not of the cheapest", e.x.dearest(0, 0, 1), 5).due("the least cost", e.x.least(0, 0, 1), 9);
        e.x.drops(2, 1);
        e.due("by rule 0", e.x.dearest(0, 0, 1), 9).due("none", e.x.dearest(1, 0, 1), NONE);
    }

    private static void used() {
        Desk d = new Desk("17 used",
            "rule A = B C;rule A = C B;rule B = b;rule C = b cost 2;rule C = B;rule D = D;rule B = z;", "bb");
        d.due("some", d.x.used(0, 0, 2, 0), 31).due("each", d.x.used(0, 0, 2, 1), 4);
        d.due("some of C", d.x.used(2, 0, 1, 0), 28).due("each of C", d.x.used(2, 0, 1, 1), 0);
        d.due("without trees", d.x.used(3, 0, 1, 0), 0).due("without trees", d.x.used(3, 0, 1, 1), 0);
        d.due("what 2", d.x.used(0, 0, 2, 2), NOT_THERE).due("what -1", d.x.used(0, 0, 2, -1), NOT_THERE);
        Desk e = new Desk("17 used", RING, "a");
        e.due("round the ring", e.x.used(0, 0, 1, 0), 14).due("each", e.x.used(0, 0, 1, 1), 2);
        e.due("each of B", e.x.used(1, 0, 1, 1), 10);
        e.x.drops(2, 1);
        e.due("no ring", e.x.used(0, 0, 1, 0), 2).due("B", e.x.used(1, 0, 1, 0), 10);
        Desk f = new Desk("17 used", "rule B=b;".repeat(39) + "rule A=a;", "a");
        f.due("the last rule", f.x.used(0, 0, 1, 0), 1L << 39).due("in each", f.x.used(0, 0, 1, 1), 1L << 39);
    }

    private static void sum() {
        Desk d = new Desk("18 sum", PAIRS, "aaa");
        d.due("a", d.x.sum(0, 0, 1), 1).due("aa", d.x.sum(0, 0, 2), 2).due("aaa", d.x.sum(0, 0, 3), 8);
        d.due("no trees", d.x.sum(1, 0, 3), 0);
        d.x.prices(0, 99);
        d.x.prices(1, 99);
        d.due("99 * 99 * 99", d.x.sum(0, 0, 2), 970299 % 9973);
        Desk e = new Desk("18 sum", RING, "a");
        e.due("1 + 12 x is x", e.x.sum(0, 0, 1), 7253).due("4 x", e.x.sum(1, 0, 1), 9066);
        Desk f = new Desk("18 sum", "rule A = B cost 88;rule B = C cost 85;rule C = A cost 4;rule A = a;", "a");
        f.due("88 * 85 * 4 is 1", f.x.sum(0, 0, 1), NONE).due("of the span", f.x.sum(2, 0, 1), NONE);
        f.x.prices(2, 5);
        // x is 37400 x + 1, and 37400 is 7481: x is 1 through 1 - 7481.
        f.due("times 1 - 7481", Math.floorMod((long) f.x.sum(0, 0, 1) * (1 - 7481), 9973L), 1);
        Desk g = new Desk("18 sum", "rule A = A;rule A = a;rule B = A A;rule C = c;rule D = A C;rule E = a;rule F = a c;"
            + "rule G = A G;rule C = G C;", "aac");
        g.due("x is x + 1", g.x.sum(0, 0, 1), NONE).due("its span", g.x.sum(4, 0, 1), NONE);
        g.due("over a failing one", g.x.sum(1, 0, 2), NONE).due("no trees", g.x.sum(0, 0, 2), 0);
        g.due("by D", g.x.sum(3, 1, 3), NONE).due("F in the span of D", g.x.sum(5, 1, 3), NONE);
        g.due("C by itself", g.x.sum(2, 2, 3), 1);
        g.say("ac");
        g.due("the first part fails", g.x.sum(3, 0, 2), NONE);
        g.grammar("rule D = C A;rule A = A;rule A = a;rule C = c;");
        g.say("ca");
        g.due("the other one fails", g.x.sum(3, 0, 2), NONE);
    }

    private static final String ODD =
        "table 3 zero 0 one 1 plus 0 1 2 2 1 0 0 0 1 times 0 0 0 2 2 1 1 1 2;";

    private static void value() {
        Desk d = new Desk("19 value", ODD + "rule A = a as 2;rule B = a b as 1;rule C = a as 2;rule C = a as 0;"
            + "rule D = a as 0;rule D = a as 2;rule E = F as 1;", "ab");
        d.due("2 * one", d.x.value(0, 0, 1), 1).due("(1 * one) * one", d.x.value(1, 0, 2), 1);
        d.due("(0 + 1) + 0", d.x.value(2, 0, 1), 2).due("(0 + 0) + 1", d.x.value(3, 0, 1), 1);
        d.due("1 * zero, without trees", d.x.value(4, 0, 1), 2).due("no cases", d.x.value(5, 0, 1), 0);
        Desk e = new Desk("19 value", Grammars.FLIP + "rule A = a;rule A = A;", "a");
        e.due("to and fro", e.x.value(0, 0, 1), UNSETTLED).due("others too", e.x.value(5, 0, 1), UNSETTLED);
        e.due("ahead of it", e.x.value(12, 0, 1), NOT_THERE);
        e.x.drops(1, 1);
        e.due("settled", e.x.value(0, 0, 1), 1);
        Desk f = new Desk("19 value", "table 2 zero 1 one 0 plus 0 0 0 1 times 0 1 1 1;" + PAIRS, "aab");
        f.due("and, or: aa", f.x.value(0, 0, 2), 0).due("aab", f.x.value(0, 0, 3), 1);
    }

    private static void rounds() {
        Desk d = new Desk("20 rounds", PAIRS, "");
        d.due("no items", d.x.rounds(), 1);
        d.say("b");
        d.due("nothing changes", d.x.rounds(), 1);
        d.say("a");
        d.due("one, and one that changes none", d.x.rounds(), 2);
        d.say("aaaaaaaa");
        d.due("1, 2, 4, 8", d.x.rounds(), 5);
        Desk e = new Desk("20 rounds", Grammars.slow(), "aaa");
        int last = e.x.count(0) - 1;
        e.due("100 change", e.x.rounds(), UNSETTLED).due("laws", e.x.laws(), UNSETTLED);
        e.x.drops(last, 1);
        e.due("99 change", e.x.rounds(), 100).due("K", e.x.value(10, 0, 3), 4);
        e.x.drops(last - 1, 1);
        e.due("98 change", e.x.rounds(), 99);
    }

    private static void laws() {
        Desk d = new Desk("21 laws");
        d.due("or, and", d.x.laws(), 511);
        d.grammar(MODULO_3 + "rule A = a as 2;");
        d.due("modulo 3", d.x.laws(), 255);
        // By 0 and 1 it is or, and; 2 breaks each law.
        String mixed = "table 3 zero 0 one 1 plus 0 1 2 1 1 0 0 2 1 times 0 0 0 0 1 2 1 0 0;";
        d.grammar(mixed + "rule A = a as 2;rule A = b;");
        d.due("none", d.x.laws(), 0);
        d.x.drops(0, 1);
        d.due("not out ones", d.x.laws(), 511);
        d.x.elements(1, 2);
        d.due("none", d.x.laws(), 0);
        // The 2 is a value of an item alone, one times one.
        d.grammar("table 3 zero 0 one 1 plus 0 1 2 1 1 2 2 2 2 times 0 0 0 0 2 2 0 2 2;rule A = a;");
        d.due("no letters: one times one is not one", d.x.laws(), 511 - 16);
        d.grammar("table 3 zero 0 one 1 plus 0 1 2 1 1 2 2 2 0 times 0 0 0 0 2 2 0 2 2;rule A = a;");
        d.due("2 is not met", d.x.laws() & 256, 256);
        d.say("a");
        d.due("2 is met: 2 + 2 is 0", d.x.laws() & 256, 0);
        // zero 1, one 0, plus and times told apart: a + zero is a, zero a and a zero are zero.
        d.grammar("table 2 zero 1 one 0 plus 0 0 0 1 times 0 1 1 1;");
        d.due("and, or", d.x.laws(), 511);
        d.grammar("table 2 zero 0 one 1 plus 0 0 1 1 times 0 1 0 1;");
        d.due("the first, the second", d.x.laws(), 512 - 1 - 1 - 16 - 32);
    }

    private static void cases() {
        Desk d = new Desk("22 cases", "rule A = A A;rule A = a;rule A = B;rule B = A;rule C = a A;rule C = A a;"
            + "rule D = D A;rule D = z;", "aaa");
        d.due("A", d.x.cases(0, 0, 3, 0), 3).due("C", d.x.cases(2, 0, 3, 0), 2).due("D", d.x.cases(3, 0, 3, 0), 2);
        d.due("full A", d.x.cases(0, 0, 3, 1), 3).due("full D", d.x.cases(3, 0, 3, 1), 0);
        d.due("a", d.x.cases(0, 0, 1, 0), 2).due("full a", d.x.cases(0, 0, 1, 1), 2).due("L", d.x.cases(11, 0, 1, 0), 0);
        d.due("around the first a", d.x.cases(0, 0, 1, 2), 4).due("around the second", d.x.cases(0, 1, 2, 2), 5);
        d.due("around D", d.x.cases(3, 0, 1, 2), 0).due("around all", d.x.cases(0, 0, 3, 2), 1);
        d.due("what 3", d.x.cases(0, 0, 1, 3), NOT_THERE).due("what -1", d.x.cases(0, 0, 1, -1), NOT_THERE);
        d.x.drops(3, 1);
        d.due("no B", d.x.cases(0, 0, 3, 1), 2).due("but the case", d.x.cases(0, 0, 3, 0), 3);
    }

    private static void dueSettled(Desk d, int k, int label, int i, int j, int cost) {
        d.due(k + " label", d.x.settled(k, 0), label).due(k + " i", d.x.settled(k, 1), i);
        d.due(k + " j", d.x.settled(k, 2), j).due(k + " cost", d.x.settled(k, 3), cost);
    }

    private static void settled() {
        Desk d = new Desk("23 settled", RING, "ab");
        int[][] want = {{0, 0, 1, 1}, {1, 0, 1, 5}, {1, 1, 2, 5}, {0, 1, 2, 8}, {0, 0, 2, 11}, {1, 0, 2, 15}};
        for (int k = 0; k < want.length; k++) {
            dueSettled(d, k, want[k][0], want[k][1], want[k][2], want[k][3]);
        }
        d.due("not so many", d.x.settled(6, 0), NONE).due("huge", d.x.settled(Integer.MAX_VALUE, 3), NONE);
        d.due("k -1", d.x.settled(-1, 0), NOT_THERE).due("what 4", d.x.settled(0, 4), NOT_THERE);
        d.due("what -1, k too great", d.x.settled(99, -1), NOT_THERE);
        Desk e = new Desk("23 settled", "rule D = a b cost 3;rule C = a cost 3;rule A = a cost 3;rule B = b b cost 3;", "abb");
        dueSettled(e, 0, 0, 0, 1, 3);
        dueSettled(e, 1, 2, 0, 1, 3);
        dueSettled(e, 2, 3, 0, 2, 3);
        dueSettled(e, 3, 1, 1, 3, 3);
    }

    private static void best() {
        Desk d = new Desk("24 best", PAIRS, "aaaa");
        for (int k = 0; k < 16; k++) {
            d.due("of five", d.x.best(0, 0, 4, k), k < 5 ? 10 : NONE);
        }
        d.due("k 16", d.x.best(0, 0, 4, 16), NOT_THERE).due("k -1", d.x.best(0, 0, 4, -1), NOT_THERE);
        d.due("no trees", d.x.best(1, 0, 4, 0), NONE);
        Desk e = new Desk("24 best", RING, "a");
        for (int k = 0; k < 16; k++) {
            e.due("round the ring", e.x.best(0, 0, 1, k), 1 + 7 * k).due("B", e.x.best(1, 0, 1, k), 5 + 7 * k);
        }
    }

    private static String steps(Desk d, int label, int j, int k) {
        StringBuilder text = new StringBuilder();
        for (int n = 0; n < d.x.size(label, 0, j, k, 0); n++) {
            text.append(d.x.step(label, 0, j, k, n));
        }
        return text.toString();
    }

    private static void order() {
        Desk d = new Desk("24 order", PAIRS, "aaa");
        d.due("m 1", d.tree(0, 0, 3, 0), "(A (A a) (A (A a) (A a)))");
        d.due("m 2", d.tree(0, 0, 3, 1), "(A (A (A a) (A a)) (A a))");
        // The first part's rule counts ahead of what it costs.
        Desk e = new Desk("24 order", "rule A = B C;rule B = b cost 5;rule B = b;rule C = b;rule C = b cost 5;", "bb");
        String[] want = {"023", "013", "024", "014"};
        for (int k = 0; k < 4; k++) {
            e.due("tree " + k, steps(e, 0, 2, k), want[k]);
        }
        // Two ways round A, rules 1 and 3: like costs go by the rules, step by step.
        Desk f = new Desk("24 order", "rule B = A A;rule A = A;rule A = b;rule A = A;", "bb");
        String[] ring = {"022", "0122", "0212", "0232", "0322", "01122", "01212", "01232", "01322", "02112", "02132",
            "02312", "02332", "03122", "03212", "03232"};
        for (int k = 0; k < 16; k++) {
            f.due("tree " + k, steps(f, 1, 2, k), ring[k]);
        }
        // By shape alone the parts of B go 334, 34, 352, 4, 512, 52: a ring's trees rank among themselves.
        Desk g = new Desk("24 order", "rule C=B C;rule C=C;rule C=a;rule B=B;rule B=a;rule B=C;", "aa");
        String[] both = {"042", "0342", "0412", "0522", "1042", "03342", "03412", "03522", "04112", "05122", "05212",
            "10342", "10412", "10522", "11042", "033342"};
        for (int k = 0; k < 16; k++) {
            g.due("tree " + k, steps(g, 2, 2, k), both[k]);
        }
    }

    private static void size() {
        Desk d = new Desk("25 size", PAIRS, "aaaa");
        d.due("steps", d.x.size(0, 0, 4, 0, 0), 7).due("one in the other", d.x.size(0, 0, 4, 0, 1), 4);
        d.due("two and two", d.x.size(0, 0, 4, 2, 1), 3).due("not so many", d.x.size(0, 0, 4, 5, 0), NONE);
        d.due("k 16", d.x.size(0, 0, 4, 16, 0), NOT_THERE).due("k -1", d.x.size(0, 0, 4, -1, 0), NOT_THERE);
        d.due("what 2, not so many", d.x.size(0, 0, 4, 5, 2), NOT_THERE).due("what -1", d.x.size(0, 0, 4, 0, -1), NOT_THERE);
        Desk e = new Desk("25 size", Grammars.bigRing(), "a");
        for (int k = 0; k < 16; k++) {
            e.due("twelve, and twelve for each time round", e.x.size(0, 0, 1, k, 0), 12 + 12 * k);
            e.due("all one in the other", e.x.size(0, 0, 1, k, 1), 12 + 12 * k);
        }
    }

    private static void step() {
        Desk d = new Desk("26 step", RING, "ab");
        d.due("the first", steps(d, 0, 2, 0), "0124");
        d.due("two more, round the ring", d.x.size(0, 0, 2, 1, 0), 6);
        d.due("behind", d.x.step(0, 0, 2, 0, 4), NONE).due("n -1", d.x.step(0, 0, 2, 0, -1), NOT_THERE);
        d.due("n huge", d.x.step(0, 0, 2, 0, Integer.MAX_VALUE), NONE).due("no trees", d.x.step(2, 0, 2, 0, 0), NONE);
        d.due("n -1 of none", d.x.step(2, 0, 2, 0, -1), NOT_THERE).due("k 16", d.x.step(0, 0, 2, 16, 0), NOT_THERE);
        d.due("k -1", d.x.step(0, 0, 2, -1, 0), NOT_THERE);
    }

    private static void bounds() {
        Desk d = new Desk("27 bounds", PAIRS, "aaa");
        int[][] want = {{0, 1, 3}, {0, NONE, 1}, {1, 2, 3}, {1, NONE, 2}, {2, NONE, 3}, {NONE, NONE, NONE}};
        for (int n = 0; n < want.length; n++) {
            for (int what = 0; what < 3; what++) {
                d.due("step " + n + " " + what, d.x.bounds(0, n, what), want[n][what]);
            }
        }
        d.due("m 2", d.x.bounds(1, 0, 1), 2).due("not so many", d.x.bounds(2, 0, 0), NONE);
        d.due("k 16", d.x.bounds(16, 0, 0), NOT_THERE).due("k -1", d.x.bounds(-1, 0, 0), NOT_THERE);
        d.due("n -1", d.x.bounds(0, -1, 0), NOT_THERE).due("what 3", d.x.bounds(0, 0, 3), NOT_THERE);
        d.due("what -1", d.x.bounds(0, 0, -1), NOT_THERE).due("n huge", d.x.bounds(0, Integer.MAX_VALUE, 0), NONE);
        d.grammar("rule A = a;");
        d.say("a");
        d.due("one rule, one letter", d.x.bounds(0, 0, 0), 0).due("its end", d.x.bounds(0, 0, 2), 1);
        d.say("");
        d.due("no letters", d.x.bounds(0, 0, 0), NONE).due("ahead of it", d.x.bounds(0, 0, 3), NOT_THERE);
        d.say("a");
        d.grammar("");
        d.due("no rules", d.x.bounds(0, 0, 0), NONE).due("ahead of it", d.x.bounds(16, 0, 0), NOT_THERE);
    }

    private static void tell() {
        Desk d = new Desk("28 tell", "rule A = a B;rule B = B c;rule B = b;rule C = b c;", "abc");
        d.due("length", d.x.tell(0, 0, 3, 0), 17);
        d.due("A", d.out(), "(A a (B (B b) c))");
        d.due("C", d.tree(2, 1, 3, 0), "(C b c)");
        d.due("not so many", d.x.tell(0, 0, 3, 1), NONE);
        d.due("stays", d.out(), "(C b c)");
        d.due("k 16", d.x.tell(0, 0, 3, 16), NOT_THERE).due("k -1", d.x.tell(0, 0, 3, -1), NOT_THERE);
        d.due("wrong span", d.x.tell(0, 0, 4, 0), NOT_THERE);
        d.due("stays", d.out(), "(C b c)");
        Desk e = new Desk("28 tell", Grammars.bigRing(), "a");
        StringBuilder want = new StringBuilder("a");
        for (int n = 191; n >= 0; n--) {
            want.insert(0, "(" + (char) ('A' + n % 12) + " ").append(')');
        }
        e.due("15 times round", e.tree(0, 0, 1, 15), want.toString());
        e.say("aaaaaaaa");
        e.due("180 steps: brackets and label, blanks, letters", e.x.tell(0, 0, 8, 15), 180 * 3 + 179 + 8 + 8);
    }

    private static void octet() {
        Desk d = new Desk("29 octet", PAIRS, "a");
        d.due("empty", d.x.octet(0), NONE);
        d.x.tell(0, 0, 1, 0);
        d.due("(", d.x.octet(0), 40).due("A", d.x.octet(1), 65).due("blank", d.x.octet(2), 32);
        d.due("a", d.x.octet(3), 97).due(")", d.x.octet(4), 41).due("behind", d.x.octet(5), NONE);
        d.due("below", d.x.octet(-1), NONE).due("huge", d.x.octet(Integer.MAX_VALUE), NONE);
        d.grammar("rule B = b;");
        d.say("bb");
        d.due("a new text", d.out(), "(A a)");
        d.due("shorter", d.tree(1, 0, 1, 0), "(B b)");
    }

    private static void cheap() {
        Desk d = new Desk("30 cheap", RING, "a");
        d.due("300", d.x.cheap(0, 0, 1, 300), 43).due("0", d.x.cheap(0, 0, 1, 0), 0).due("1", d.x.cheap(0, 0, 1, 1), 1);
        d.due("7", d.x.cheap(0, 0, 1, 7), 1).due("8", d.x.cheap(0, 0, 1, 8), 2).due("no trees", d.x.cheap(2, 0, 1, 300), 0);
        d.due("301", d.x.cheap(0, 0, 1, 301), NOT_THERE).due("-1", d.x.cheap(0, 0, 1, -1), NOT_THERE);
        d.grammar("rule A = A;rule A = a;");
        for (int c = 0; c <= 300; c++) {
            d.due("one for each cost", d.x.cheap(0, 0, 1, c), c);
        }
        Desk e = new Desk("30 cheap", Grammars.EDGE, "aaaaaaab");
        e.due("21", e.x.cheap(0, 0, 8, 21), 0).due("10^15", e.x.cheap(0, 0, 8, 22), 1000000000000000L);
        e.due("7", e.x.cheap(1, 0, 8, 7), 0).due("8", e.x.cheap(1, 0, 8, 8), 1).due("22", e.x.cheap(1, 0, 8, 22), 1);
        e.due("10^15 + 1", e.x.cheap(1, 0, 8, 23), TOO_GREAT).due("all", e.x.cheap(0, 0, 8, 300), 1000000000000000L);
        Desk f = new Desk("30 cheap", "rule A=A;rule A=A;rule A=A;rule A=a;rule A=A b;", "ab");
        f.due("3^31 and all below", f.x.cheap(0, 0, 1, 32), (1853020188851841L - 1) / 2);
        f.due("3^32 and all below", f.x.cheap(0, 0, 1, 33), TOO_GREAT).due("ab", f.x.cheap(0, 0, 2, 300), TOO_GREAT);
        f.due("two, 2 * 3 of three", f.x.cheap(0, 0, 2, 3), 7);
    }

    private static void alike() {
        Desk d = new Desk("31 alike", PAIRS, "aaa");
        d.due("the same", d.x.alike(0, 0, 3, 0, 0), 5).due("m", d.x.alike(0, 0, 3, 0, 1), 0);
        d.due("not so many", d.x.alike(0, 0, 3, 0, 2), NONE).due("not so many", d.x.alike(0, 0, 3, 2, 0), NONE);
        d.due("l 16", d.x.alike(0, 0, 3, 5, 16), NOT_THERE).due("k -1", d.x.alike(0, 0, 3, -1, 0), NOT_THERE);
        d.due("k 16", d.x.alike(0, 0, 3, 16, 0), NOT_THERE).due("l -1", d.x.alike(0, 0, 3, 0, -1), NOT_THERE);
        Desk e = new Desk("31 alike", RING, "a");
        e.due("not the first", e.x.alike(0, 0, 1, 0, 1), 0).due("2 3", e.x.alike(0, 0, 1, 1, 2), 2);
        e.due("2 3 2 3", e.x.alike(0, 0, 1, 7, 2), 4);
    }

    private static void without() {
        Desk d = new Desk("32 without", RING, "ab");
        int[] want = {NONE, NONE, NONE, 11, NONE};
        for (int rule = 0; rule < 5; rule++) {
            d.due("rule " + rule, d.x.without(rule), want[rule]);
        }
        d.due("no such", d.x.without(5), NOT_THERE).due("below", d.x.without(-1), NOT_THERE);
        Desk e = new Desk("32 without", "rule A = a cost 5;rule A = a cost 3;", "a");
        e.due("0", e.x.without(0), 3).due("1", e.x.without(1), 5).due("it is back", e.x.least(0, 0, 1), 3);
        e.x.drops(0, 1);
        e.due("0 is out", e.x.without(0), 3).due("1, too", e.x.without(1), NONE);
        e.say("");
        e.due("no letters", e.x.without(0), NONE).due("no such", e.x.without(2), NOT_THERE);
    }

    private static void heads() {
        Desk d = new Desk("33 heads", PAIRS, "aab");
        d.due("1, 2", d.x.heads(), 6);
        d.grammar("rule A = a B;rule B = b B;rule B = b;rule C = a;");
        d.say("abbbbbbb");
        d.due("2 .. 8", d.x.heads(), 508);
        d.x.drops(1, 1);
        d.due("2", d.x.heads(), 4);
        d.x.drops(0, 1);
        d.due("START stays A", d.x.heads(), 0);
        d.say("");
        d.due("no letters", d.x.heads(), 0);
    }

    private static final String THREE = "rule A = A A;rule A = a cost 5;rule A = b cost 3;rule A = c cost 3;";

    private static void mends() {
        Desk d = new Desk("34 mends", PAIRS, "aba");
        d.due("b to a", d.x.mends(), 1);
        d.say("aaa");
        d.due("to no other", d.x.mends(), 0);
        d.say("bb");
        d.due("two are wrong", d.x.mends(), 0);
        d.say("");
        d.due("no letters", d.x.mends(), 0);
        d.grammar(THREE);
        d.say("az");
        d.due("z to a, b, c", d.x.mends(), 3);
        d.say("ab");
        d.due("two for each", d.x.mends(), 4);
        d.x.drops(3, 1);
        d.due("one for each", d.x.mends(), 2);
    }

    private static void dueMend(Desk d, int place, int letter, int cost) {
        d.due("place", d.x.mend(0), place).due("letter", d.x.mend(1), letter).due("cost", d.x.mend(2), cost);
    }

    private static void mend() {
        Desk d = new Desk("35 mend", PAIRS, "aba");
        dueMend(d, 1, 0, 7);
        d.due("what 3", d.x.mend(3), NOT_THERE).due("what -1", d.x.mend(-1), NOT_THERE);
        d.say("aa");
        dueMend(d, NONE, NONE, NONE);
        d.due("what 3", d.x.mend(3), NOT_THERE);
        d.grammar(THREE);
        d.say("az");
        dueMend(d, 1, 1, 9);
        d.say("aab");
        dueMend(d, 0, 1, 13);
        d.x.prices(2, 4);
        dueMend(d, 0, 2, 14);
        d.grammar("rule A = B z cost 2;rule B = x y cost 4;rule B = C;rule C = q w cost 9;rule A = p;");
        d.say("xwz");
        dueMend(d, 1, 24, 6);
        d.due("w to y, x to q", d.x.mends(), 2);
        d.say("xy");
        d.due("z is not there", d.x.mends(), 0);
        d.say("a");
        dueMend(d, 0, 15, 1);
        d.grammar("rule A = L;rule L = B;rule B = K;rule K = C;rule C = J;rule J = c;rule A = C cost 9;");
        d.say("z");
        dueMend(d, 0, 2, 6);
        d.x.prices(6, 2);
        dueMend(d, 0, 2, 4);
    }

    private static void rings() {
        Desk d = new Desk("36 rings", RING + "rule C = A;rule D = D D;rule E = e;", "");
        d.due("A, B", d.x.rings(), 3);
        d.x.drops(3, 1);
        d.due("B is no more A", d.x.rings(), 0);
        d.grammar("rule L = L;rule A = B;rule B = C;rule C = B;");
        d.due("L, B, C", d.x.rings(), 2048 + 6);
        d.grammar("");
        d.due("no rules", d.x.rings(), 0);
        Desk e = new Desk("36 rings", Grammars.bigRing(), "");
        e.due("all twelve", e.x.rings(), 4095);
    }

    private static void alive() {
        Desk d = new Desk("37 alive", RING, "");
        d.due("all", d.x.alive(), 31);
        d.x.drops(1, 1);
        d.due("without a", d.x.alive(), 29);
        d.x.drops(4, 1);
        d.due("without b", d.x.alive(), 0);
        d.grammar("rule A = a;rule A = B;rule B = B;rule C = a;");
        d.due("one", d.x.alive(), 1);
        d.grammar("rule A = B C;rule B = b;");
        d.due("no C", d.x.alive(), 0);
        d.grammar("rule A = B B;rule B = C C;rule C = D D;rule D = E E;rule E = F F;rule F = f;rule G = A;");
        d.due("32 letters", d.x.alive(), 63);
        d.x.drops(0, 1);
        d.due("START stays A", d.x.alive(), 0);
        d.grammar("rule B=b;".repeat(39) + "rule B=BB;");
        d.due("the last rule", d.x.alive(), (1L << 40) - 1);
        d.grammar("");
        d.due("no rules", d.x.alive(), 0);
    }
}
