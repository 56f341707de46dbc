/** Promises 13 to 23, and 30: what is told of an item, at its boundaries. */
public final class ItemEdgesTest {
    private static final int NONE = Edges.NONE;
    private static final int ENDLESS = Edges.ENDLESS;
    private static final int TOO_GREAT = Edges.TOO_GREAT;
    private static final int UNSETTLED = Edges.UNSETTLED;
    private static final int REFUSED = Edges.REFUSED;
    private static final int LOWEST = Edges.LOWEST;
    private static final int HIGHEST = Edges.HIGHEST;
    private static final long MOST = 1000000000000000L;
    private static final String PAIRS = "rule A=AA cost 2;rule A=a;";
    private static final String RING = "rule A=B cost 3;rule B=A cost 4;rule A=a;rule C=c;rule D=AC;rule E=D;rule F=F;rule G=G;";

    public static void main(String[] args) {
        Edges.run(ItemEdgesTest.class, "p13", "p14", "p15", "p16", "p17", "p18", "p19", "p20", "p21", "p22", "p23", "p30");
    }

    // ---- 13 can ----

    static void p13LabelsAndSpans() {
        Edges.item((x, label, i, j) -> x.can(label, i, j));
    }

    static void p13WithTreesAndWithout() {
        Desk d = new Desk(PAIRS + "rule L=AL;rule K=b;", "aab");
        d.due("with", d.x.can(0, 0, 2), 1).due("without", d.x.can(0, 0, 3), 0).due("a part without", d.x.can(11, 0, 3), 0);
        d.due("the last letter", d.x.can(10, 2, 3), 1).due("no rules of it", d.x.can(5, 0, 1), 0);
        d.due("a ring of itself alone", new Desk("rule A=A;", "a").x.can(0, 0, 1), 0);
        d.grammar("");
        d.due("no rules at all", d.x.can(0, 0, 3), 0);
    }

    static void p13RulesOut() {
        Desk d = new Desk(PAIRS, "aa");
        d.x.drops(0, 1);
        d.due("aa", d.x.can(0, 0, 2), 0).due("a", d.x.can(0, 0, 1), 1);
        d.x.drops(0, 0);
        d.due("aa again", d.x.can(0, 0, 2), 1);
    }

    // ---- 14 least ----

    static void p14LabelsAndSpans() {
        Edges.item((x, label, i, j) -> x.least(label, i, j));
    }

    static void p14WithoutTrees() {
        Desk d = new Desk(PAIRS + "rule B=B;", "ab");
        d.due("b", d.x.least(0, 1, 2), NONE).due("ab", d.x.least(0, 0, 2), NONE).due("a ring alone", d.x.least(1, 0, 1), NONE);
        d.due("a", d.x.least(0, 0, 1), 1);
    }

    static void p14LeastOfAll() {
        Desk d = new Desk("rule A=a cost 99;rule A=a cost 98;rule A=B cost 1;rule B=a cost 96;", "a");
        d.due("1 and 96", d.x.least(0, 0, 1), 97);
        d.x.prices(1, 97);
        d.due("as dear", d.x.least(0, 0, 1), 97);
        d.x.prices(1, 96);
        d.due("cheaper by one", d.x.least(0, 0, 1), 96);
        d.x.prices(0, 1);
        d.due("1", d.x.least(0, 0, 1), 1);
    }

    /** Twelve rules at each of fifteen places of a tree over eight letters, each of cost 99. */
    static void p14DearestTree() {
        StringBuilder text = new StringBuilder();
        for (int label = 0; label < 11; label++) {
            text.append("rule ").append((char) ('A' + label)).append('=').append((char) ('B' + label)).append(" cost 99;");
        }
        Desk d = new Desk(text + "rule L=a cost 99;rule L=AA cost 99;", "aaaaaaaa");
        d.due("180 rules", d.x.least(0, 0, 8), 180 * 99).due("one letter", d.x.least(0, 7, 8), 12 * 99);
        d.due("best", d.x.best(0, 0, 8, 0), 180 * 99).due("settled last", d.x.settled(431, 3), 180 * 99);
    }

    // ---- 15 ways ----

    static void p15LabelsAndSpans() {
        Edges.item((x, label, i, j) -> x.ways(label, i, j));
    }

    static void p15NoneAndOne() {
        Desk d = new Desk(PAIRS, "aab");
        d.due("none", d.x.ways(0, 0, 3), 0).due("one", d.x.ways(0, 0, 2), 1).due("no rules of it", d.x.ways(11, 0, 1), 0);
    }

    static void p15Endless() {
        Desk d = new Desk(RING, "ac");
        d.due("on a ring", d.x.ways(0, 0, 1), ENDLESS).due("on it", d.x.ways(1, 0, 1), ENDLESS);
        d.due("with a part on it", d.x.ways(3, 0, 2), ENDLESS).due("above that", d.x.ways(4, 0, 2), ENDLESS);
        d.due("beside it", d.x.ways(2, 1, 2), 1).due("a ring without trees", d.x.ways(5, 0, 1), 0);
        d.due("over letters without trees", d.x.ways(0, 1, 2), 0);
        d.x.drops(0, 1);
        d.due("the ring is open", d.x.ways(0, 0, 1), 1).due("B", d.x.ways(1, 0, 1), 1).due("D", d.x.ways(3, 0, 2), 1);
        d.x.drops(0, 0);
        d.due("closed again", d.x.ways(4, 0, 2), ENDLESS);
    }

    /** One of several cases is endless, be it the first or the last. */
    static void p15EndlessByOneCase() {
        Desk d = new Desk("rule A=A;rule A=a;rule B=a;rule C=A;rule C=B;rule D=B;rule D=A;rule E=AF;rule E=BF;rule G=BF;"
            + "rule G=AF;rule F=f;", "af");
        d.due("C", d.x.ways(2, 0, 1), ENDLESS).due("D", d.x.ways(3, 0, 1), ENDLESS).due("B", d.x.ways(1, 0, 1), 1);
        d.due("E", d.x.ways(4, 0, 2), ENDLESS).due("G", d.x.ways(6, 0, 2), ENDLESS);
        d.x.drops(0, 1);
        d.due("C", d.x.ways(2, 0, 1), 2).due("D", d.x.ways(3, 0, 1), 2).due("E", d.x.ways(4, 0, 2), 2);
        d.due("G", d.x.ways(6, 0, 2), 2);
    }

    static void p15ARingWithoutTreesOfItsOwn() {
        Desk d = new Desk("rule A=a;rule A=F;rule F=G;rule G=F;", "a");
        d.due("F and G have none", d.x.ways(0, 0, 1), 1).due("F", d.x.ways(5, 0, 1), 0);
    }

    static void p15JustAsManyAsAreTold() {
        Desk d = new Desk(Grammars.EDGE, "aaaaaaab");
        d.due("10^15", d.x.ways(0, 0, 8), MOST).due("one more", d.x.ways(1, 0, 8), TOO_GREAT);
        d.x.drops(Grammars.EDGE_LAST, 1);
        d.due("without the one more", d.x.ways(1, 0, 8), MOST);
    }

    static void p15EndlessAheadOfTooGreat() {
        Desk d = new Desk(Grammars.EDGE + "rule G=G;rule G=B;", "aaaaaaab");
        d.due("too great", d.x.ways(1, 0, 8), TOO_GREAT).due("a ring above it", d.x.ways(6, 0, 8), ENDLESS);
        d.x.drops(Grammars.EDGE_LAST + 1, 1);
        d.due("no ring", d.x.ways(6, 0, 8), TOO_GREAT);
    }

    // ---- 16 dearest ----

    static void p16LabelsAndSpans() {
        Edges.item((x, label, i, j) -> x.dearest(label, i, j));
    }

    static void p16WithoutTrees() {
        Desk d = new Desk(PAIRS + "rule B=B;", "ab");
        d.due("b", d.x.dearest(0, 1, 2), NONE).due("ab", d.x.dearest(0, 0, 2), NONE).due("a ring", d.x.dearest(1, 0, 1), NONE);
    }

    static void p16FromOneTo99() {
        Desk d = new Desk("rule A=a cost 99;rule B=a;rule C=A;rule C=B cost 98;", "a");
        d.due("99", d.x.dearest(0, 0, 1), 99).due("1", d.x.dearest(1, 0, 1), 1).due("98", d.x.dearest(2, 0, 1), 98);
        d.x.prices(3, 99);
        d.due("99 by both", d.x.dearest(2, 0, 1), 99);
    }

    static void p16RoundARingIsNoBetter() {
        Desk d = new Desk("rule A=B cost 9;rule B=A;rule A=a cost 5;rule B=b;", "ab");
        d.due("5", d.x.dearest(0, 0, 1), 5).due("B", d.x.dearest(1, 0, 1), 5).due("b by A", d.x.dearest(0, 1, 2), 9);
        d.due("b", d.x.dearest(1, 1, 2), 1);
    }

    // ---- 17 used ----

    static void p17LabelsAndSpans() {
        Edges.item((x, label, i, j) -> x.used(label, i, j, 0));
        Edges.item((x, label, i, j) -> x.used(label, i, j, 1));
    }

    static void p17NoSuchWhat() {
        Desk d = new Desk(PAIRS, "ab");
        for (int j = 1; j <= 2; j++) {
            d.due("-1", d.x.used(0, 0, j, -1), REFUSED).due("2", d.x.used(0, 0, j, 2), REFUSED);
            d.due("lowest", d.x.used(0, 0, j, LOWEST), REFUSED).due("highest", d.x.used(0, 0, j, HIGHEST), REFUSED);
        }
        d.due("0", d.x.used(0, 0, 1, 0), 2).due("1", d.x.used(0, 0, 1, 1), 2);
    }

    static void p17WithoutTrees() {
        Desk d = new Desk(PAIRS + "rule B=B;rule B=Ab;", "aa");
        d.due("in each", d.x.used(1, 0, 2, 1), 0).due("in some", d.x.used(1, 0, 2, 0), 0);
        d.due("no rules of it", d.x.used(11, 0, 1, 1), 0);
    }

    static void p17FirstAndLastRule() {
        Desk d = new Desk("rule A=a;".repeat(40), "a");
        d.due("all in some", d.x.used(0, 0, 1, 0), (1L << 40) - 1).due("none in each", d.x.used(0, 0, 1, 1), 0);
        for (int rule = 1; rule < 39; rule++) {
            d.x.drops(rule, 1);
        }
        d.due("0 and 39", d.x.used(0, 0, 1, 0), (1L << 39) + 1).due("none in each", d.x.used(0, 0, 1, 1), 0);
        d.x.drops(0, 1);
        d.due("39", d.x.used(0, 0, 1, 1), 1L << 39);
    }

    static void p17InEachByBothWays() {
        Desk d = new Desk("rule A=B;rule A=C;rule B=D;rule C=D;rule D=d;rule D=D;", "d");
        d.due("in each", d.x.used(0, 0, 1, 1), 16).due("in some", d.x.used(0, 0, 1, 0), 63);
        d.x.drops(1, 1);
        d.due("one way is left", d.x.used(0, 0, 1, 1), 1 + 4 + 16);
    }

    static void p17OfBothParts() {
        Desk d = new Desk(PAIRS + "rule B=CA;rule C=a;rule B=AD;rule D=D;", "aa");
        d.due("some", d.x.used(0, 0, 2, 0), 3).due("each", d.x.used(0, 0, 2, 1), 3);
        d.due("some of B", d.x.used(1, 0, 2, 0), 2 + 4 + 8).due("each of B", d.x.used(1, 0, 2, 1), 2 + 4 + 8);
        d.grammar("rule B=A b;rule A=a;rule C=a D;rule D=b;");
        d.say("ab");
        d.due("of the first alone", d.x.used(1, 0, 2, 0), 3).due("in each", d.x.used(1, 0, 2, 1), 3);
        d.due("of the other alone", d.x.used(2, 0, 2, 0), 12).due("in each", d.x.used(2, 0, 2, 1), 12);
    }

    // ---- 18 sum ----

    static void p18LabelsAndSpans() {
        Edges.item((x, label, i, j) -> x.sum(label, i, j));
    }

    static void p18WithoutTrees() {
        Desk d = new Desk("rule A=A;rule A=a;rule B=B;", "ab");
        d.due("without", d.x.sum(0, 1, 2), 0).due("its span fails, it has none", d.x.sum(1, 0, 1), 0);
        d.due("its span fails", d.x.sum(0, 0, 1), NONE).due("no rules of it", d.x.sum(11, 0, 2), 0);
    }

    /** 99 times 99, and 99, and 72 to 74, over bc. */
    static void p18Modulo9973() {
        Desk d = new Desk("rule A=BC cost 99;rule A=b c cost 99;rule A=b c cost 72;rule B=b cost 99;rule C=c;", "bc");
        d.due("9972", d.x.sum(0, 0, 2), 9972);
        d.x.prices(2, 73);
        d.due("9973 is 0", d.x.sum(0, 0, 2), 0).due("with trees", d.x.can(0, 0, 2), 1);
        d.x.prices(2, 74);
        d.due("9974 is 1", d.x.sum(0, 0, 2), 1);
    }

    // ---- 19 value ----

    static void p19LabelsAndSpans() {
        Edges.item((x, label, i, j) -> x.value(label, i, j));
    }

    static void p19Unsettled() {
        Desk d = new Desk(Grammars.FLIP + "rule A=a;rule A=A;rule B=b;", "ab");
        for (int label = 0; label < 12; label++) {
            d.due("each item", d.x.value(label, 0, 2), UNSETTLED).due("each item", d.x.value(label, 1, 2), UNSETTLED);
        }
        d.due("no such label", d.x.value(12, 0, 1), REFUSED).due("no such span", d.x.value(0, 0, 3), REFUSED);
        d.due("ways", d.x.ways(0, 0, 1), ENDLESS);
        d.say("b");
        d.due("settled", d.x.value(1, 0, 1), 1).due("zero", d.x.value(0, 0, 1), 0);
    }

    static void p19ZeroWithoutCases() {
        Desk d = new Desk("table 5 zero 4 one 3 plus" + " 1".repeat(25) + " times" + " 2".repeat(25) + ";rule A=a;", "ab");
        d.due("zero", d.x.value(0, 1, 2), 4).due("no rules of it", d.x.value(11, 0, 2), 4).due("a case", d.x.value(0, 0, 1), 1);
    }

    // ---- 20 rounds ----

    static void p20NoItems() {
        Desk d = new Desk();
        d.due("new", d.x.rounds(), 1);
        d.grammar(Grammars.FLIP + "rule A=a;rule A=A;");
        d.due("no letters", d.x.rounds(), 1);
        d.say("a");
        d.due("to and fro", d.x.rounds(), UNSETTLED);
        d.grammar("");
        d.due("no rules", d.x.rounds(), 1);
    }

    static void p20TheOneThatChangesNoneCounts() {
        Desk d = new Desk(PAIRS, "b");
        d.due("the first changes none", d.x.rounds(), 1);
        d.say("a");
        d.due("the second", d.x.rounds(), 2);
        d.say("aa");
        d.due("the third", d.x.rounds(), 3);
    }

    static void p20HundredAtMost() {
        Desk d = new Desk(Grammars.slow(), "aaa");
        int last = d.x.count(0) - 1;
        d.due("each of 100 changes one", d.x.rounds(), UNSETTLED);
        d.x.drops(last, 1);
        d.due("the 100th changes none", d.x.rounds(), 100).due("settled", d.x.value(0, 0, 3), 4);
        d.x.drops(last, 0);
        d.due("UNSETTLED again", d.x.rounds(), UNSETTLED).due("its value", d.x.value(0, 0, 3), UNSETTLED);
        d.x.drops(last - 1, 1);
        d.due("the 99th", d.x.rounds(), 99);
    }

    // ---- 21 laws ----

    /** For each law a table that keeps all others: N, zero, one, the sums, the products. */
    private static final String[][] BREAKERS = {
        {"2", "0", "1", "0 0 1 1", "0 0 0 1"},
        {"3", "0", "1", "0 1 2 1 1 0 2 0 2", "0 0 0 0 1 2 0 2 1"},
        {"2", "0", "1", "0 0 0 1", "0 0 0 1"},
        {"4", "0", "2", "0 1 2 3 1 1 2 3 2 2 2 3 3 3 3 3", "0 0 0 0 0 0 1 1 0 1 2 3 0 2 3 3"},
        {"2", "0", "0", "0 1 1 1", "0 0 0 0"},
        {"2", "0", "0", "0 1 1 1", "0 1 1 1"},
        {"4", "0", "1", "0 1 2 3 1 1 2 3 2 2 2 3 3 3 3 3", "0 0 0 0 0 1 2 3 0 2 2 3 0 3 2 3"},
        {"4", "0", "1", "0 1 2 3 1 1 2 3 2 2 2 3 3 3 3 3", "0 0 0 0 0 1 2 3 0 2 2 2 0 3 3 3"},
        {"2", "0", "1", "0 1 1 0", "0 0 0 1"}};

    static void p21EachLawAlone() {
        for (int law = 0; law < 9; law++) {
            String[] b = BREAKERS[law];
            StringBuilder text = new StringBuilder("table " + b[0] + " zero " + b[1] + " one " + b[2] + " plus " + b[3]
                + " times " + b[4] + ";");
            for (int element = 0; element < Integer.parseInt(b[0]); element++) {
                text.append("rule A=a as ").append(element).append(';');
            }
            Desk d = new Desk(text.toString(), "");
            d.due("all but law " + law, d.x.laws(), 511 - (1 << law));
        }
    }

    /** Law 1 needs 1 and 2 and 0: what is not met breaks nothing. */
    static void p21ValuesMetAlone() {
        String[] b = BREAKERS[1];
        String table = "table 3 zero 0 one 1 plus " + b[3] + " times " + b[4] + ";";
        Desk d = new Desk(table + "rule A=a;rule B=b as 2;", "a");
        d.due("2 is an E", d.x.laws(), 509);
        d.x.drops(1, 1);
        d.due("its rule is OUT", d.x.laws(), 511);
        d.x.drops(1, 0);
        d.x.elements(1, 0);
        d.due("another E", d.x.laws(), 511);
        d.x.elements(0, 2);
        d.due("2 is an E and a value", d.x.laws(), 509);
    }

    static void p21ZeroAndOneAreMet() {
        String[] b = BREAKERS[1];
        String rest = " plus " + b[3] + " times " + b[4] + ";rule A=a as 1;rule A=b as 0;";
        Desk d = new Desk("table 3 zero 0 one 1" + rest, "");
        d.due("0 and 1 alone", d.x.laws() & 2, 2);
        d.grammar("table 3 zero 0 one 2" + rest);
        d.due("one is 2", d.x.laws() & 2, 0);
        d.grammar("table 3 zero 2 one 1" + rest);
        d.due("zero is 2", d.x.laws() & 2, 0);
    }

    /** Tables that break a law by 0 alone in one place of it: sums, products, the law, its bit. */
    static void p21ZeroInEachPlaceOfALaw() {
        String none = "0 0 0 0 0 0 0 0 0";
        String[][] tables = {{"1 0 0 0 1 2 0 1 2", none}, {none, "2 0 0 0 1 1 0 1 2"},
            {"1 0 2 0 1 2 0 1 2", "2 1 1 2 1 1 0 2 2"}, {"2 1 0 2 1 1 0 1 2", "1 1 2 1 1 2 0 1 2"},
            {"1 1 2 0 1 2 0 1 2", "0 1 1 1 2 2 2 2 2"}, {"0 0 0 1 1 2 0 2 1", "0 2 1 1 1 1 2 1 1"}};
        int[] laws = {1, 3, 6, 6, 7, 7};
        for (int at = 0; at < laws.length; at++) {
            Desk d = new Desk("table 3 zero 0 one 1 plus " + tables[at][0] + " times " + tables[at][1] + ";rule A=a as 2;", "");
            d.due("table " + at, d.x.laws() >> laws[at] & 1, 0);
        }
        Desk d = new Desk("table 2 zero 0 one 1 plus 1 0 1 1 times 0 0 0 0;", "");
        d.due("(0 + 1) + 0", d.x.laws() & 2, 0);
        d.grammar("table 2 zero 0 one 1 plus 0 0 0 0 times 1 0 1 1;");
        d.due("(0 1) 0", d.x.laws() & 8, 0);
        d.grammar("table 2 zero 0 one 1 plus 0 1 1 1 times 1 0 0 1;");
        d.due("zero zero", d.x.laws() & 32, 0);
    }

    /** One a, a one; zero a, a zero: either side alone breaks its law. */
    static void p21EitherSide() {
        Desk d = new Desk();
        String[] times = {"0 0 1 1", "0 1 0 1"};
        for (int side = 0; side < 2; side++) {
            d.grammar("table 2 zero 0 one 1 plus 0 1 1 1 times " + times[side] + ";");
            d.due("one", d.x.laws() & 16, 0).due("zero", d.x.laws() & 32, 0);
        }
        d.grammar("table 3 zero 0 one 1 plus 0 1 2 1 1 2 2 2 2 times 0 0 0 0 1 2 0 0 0;rule A=a as 2;");
        d.due("one a is a, a one is not", d.x.laws() & 48, 32);
        d.grammar("table 3 zero 0 one 1 plus 0 1 2 1 1 2 2 2 2 times 0 0 0 0 1 0 0 2 0;rule A=a as 2;");
        d.due("a one is a, one a is not", d.x.laws() & 48, 32);
    }

    /** The last of forty is met, and what was told ahead of this text is not. */
    static void p21FirstAndLastRule() {
        String[] b = BREAKERS[1];
        String table = "table 3 zero 0 one 1 plus " + b[3] + " times " + b[4] + ";";
        Desk d = new Desk(table + "rule A=a;".repeat(39) + "rule A=a as 2;", "");
        d.due("39", d.x.laws(), 509);
        d.grammar(table + "rule A=a;".repeat(39));
        d.due("it is gone", d.x.laws(), 511);
        d.grammar(table + "rule A=a as 2;" + "rule A=a;".repeat(39));
        d.due("0", d.x.laws(), 509);
        d.grammar(table);
        d.due("no rules", d.x.laws(), 511);
    }

    /** 2 is no E, nor zero nor one: but one times one is 2. */
    static void p21AValueOfAnItemIsMet() {
        String text = "table 3 zero 0 one 1 plus 0 1 2 1 1 2 2 2 0 times 0 0 0 0 2 2 0 2 2;rule L=a;";
        Desk d = new Desk(text, "");
        d.due("no items", d.x.laws() & 256, 256);
        d.say("b");
        d.due("all are zero", d.x.laws() & 256, 256);
        d.say("bba");
        d.due("the last label over the last letter", d.x.laws() & 256, 0);
    }

    static void p21Unsettled() {
        Desk d = new Desk(Grammars.FLIP + "rule A=a;rule A=A;", "a");
        d.due("UNSETTLED", d.x.laws(), UNSETTLED);
        d.x.elements(0, 0);
        d.due("settled", d.x.laws(), 255);
    }

    // ---- 22 cases ----

    static void p22LabelsAndSpans() {
        Edges.item((x, label, i, j) -> x.cases(label, i, j, 0));
        Edges.item((x, label, i, j) -> x.cases(label, i, j, 1));
        Edges.item((x, label, i, j) -> x.cases(label, i, j, 2));
    }

    static void p22NoSuchWhat() {
        Desk d = new Desk(PAIRS, "aa");
        d.due("-1", d.x.cases(0, 0, 2, -1), REFUSED).due("3", d.x.cases(0, 0, 2, 3), REFUSED);
        d.due("lowest", d.x.cases(0, 0, 2, LOWEST), REFUSED).due("highest", d.x.cases(0, 0, 2, HIGHEST), REFUSED);
        d.due("0", d.x.cases(0, 0, 2, 0), 1).due("2", d.x.cases(0, 0, 2, 2), 0);
    }

    static void p22NoneAndAll() {
        Desk d = new Desk("rule A=AA;".repeat(40), "aaaaaaaa");
        d.due("40 rules, seven m each", d.x.cases(0, 0, 8, 0), 280).due("none has trees", d.x.cases(0, 0, 8, 1), 0);
        d.due("over one letter", d.x.cases(0, 0, 1, 0), 0).due("a part of none with trees", d.x.cases(0, 0, 1, 2), 0);
        d.due("no rules of it", d.x.cases(11, 0, 8, 0), 0);
        d.grammar("rule A=a;" + "rule A=AA;".repeat(39));
        d.due("all", d.x.cases(0, 0, 8, 0), 273).due("with trees", d.x.cases(0, 0, 8, 1), 273);
        // The first letter is the first part of 39 cases over each of seven spans.
        d.due("around the first letter", d.x.cases(0, 0, 1, 2), 273).due("around all", d.x.cases(0, 0, 8, 2), 0);
        // The second one: of six spans that begin with it, and the other part of one.
        d.due("around the second", d.x.cases(0, 1, 2, 2), 273);
    }

    static void p22AllPartsMustHaveTrees() {
        Desk d = new Desk("rule A=BC;rule B=b;rule C=c;rule A=BD;rule A=bC;rule A=Bc;rule A=b c;rule E=A;", "bc");
        d.due("all", d.x.cases(0, 0, 2, 0), 5).due("D has none", d.x.cases(0, 0, 2, 1), 4);
        d.due("around B", d.x.cases(1, 0, 1, 2), 2).due("around C", d.x.cases(2, 1, 2, 2), 2);
        d.due("around D", d.x.cases(3, 1, 2, 2), 0).due("around A", d.x.cases(0, 0, 2, 2), 1);
    }

    /** The very first item and its case count, too. */
    static void p22TheFirstItem() {
        Desk d = new Desk("rule A=B;rule B=a;", "a");
        d.due("A is around B", d.x.cases(1, 0, 1, 2), 1).due("A", d.x.cases(0, 0, 1, 0), 1).due("full", d.x.cases(0, 0, 1, 1), 1);
        d.grammar("rule B=A b;rule A=a;rule B=b A;");
        d.say("bb");
        d.due("A over the first b has none", d.x.cases(1, 0, 2, 1), 0).due("the cases", d.x.cases(1, 0, 2, 0), 2);
        d.due("no trees", d.x.can(1, 0, 2), 0).due("no ways", d.x.ways(1, 0, 2), 0).due("best", d.x.best(1, 0, 2, 0), NONE);
        d.due("cheap", d.x.cheap(1, 0, 2, 300), 0).due("sum", d.x.sum(1, 0, 2), 0).due("used", d.x.used(1, 0, 2, 0), 0);
    }

    // ---- 23 settled ----

    static void p23KFrom0() {
        Desk d = new Desk(PAIRS, "aab");
        d.due("-1", d.x.settled(-1, 0), REFUSED).due("lowest", d.x.settled(LOWEST, 0), REFUSED);
        d.due("the first", d.x.settled(0, 2), 1).due("the last of three", d.x.settled(2, 3), 4);
        for (int what = 0; what < 4; what++) {
            d.due("not so many", d.x.settled(3, what), NONE).due("highest", d.x.settled(HIGHEST, what), NONE);
        }
    }

    static void p23NoSuchWhat() {
        Desk d = new Desk(PAIRS, "a");
        for (int k : new int[] {0, 1, HIGHEST}) {
            d.due("-1", d.x.settled(k, -1), REFUSED).due("4", d.x.settled(k, 4), REFUSED);
            d.due("lowest", d.x.settled(k, LOWEST), REFUSED).due("highest", d.x.settled(k, HIGHEST), REFUSED);
        }
        d.due("3", d.x.settled(0, 3), 1);
    }

    static void p23NoItems() {
        Desk d = new Desk();
        d.due("new", d.x.settled(0, 0), NONE).due("-1", d.x.settled(-1, 0), REFUSED).due("what 4", d.x.settled(0, 4), REFUSED);
        d.say("a");
        d.due("no rules", d.x.settled(0, 0), NONE);
    }

    static void p23AllItems() {
        Desk d = new Desk(Edges.ALL, "aaaaaaaa");
        d.due("the last label", d.x.settled(431, 0), 11).due("i", d.x.settled(431, 1), 0).due("j", d.x.settled(431, 2), 8);
        d.due("15 and 1", d.x.settled(431, 3), 16).due("432", d.x.settled(432, 0), NONE);
        d.due("A over the first letter", d.x.settled(0, 2), 1).due("A over the last", d.x.settled(7, 1), 7);
        d.due("B comes with cost 2", d.x.settled(8, 0), 1).due("over the first", d.x.settled(8, 1), 0);
        d.due("L over the first", d.x.settled(18, 0), 11).due("B over the second", d.x.settled(19, 1), 1);
    }

    /** Of like cost by j less i, then i, then LABEL. */
    static void p23LikeCosts() {
        Desk d = new Desk("rule L=a b cost 5;rule B=b cost 5;rule A=a cost 5;rule C=a b cost 5;rule D=b a cost 5;"
            + "rule E=F b cost 4;rule F=a cost 1;rule G=b a;", "aba");
        // F 1 over both a, G 1, then cost 5: A a, B b, A a, then over two C, E, L, and D.
        int[][] want = {{5, 0, 1, 1}, {5, 2, 3, 1}, {6, 1, 3, 1}, {0, 0, 1, 5}, {1, 1, 2, 5}, {0, 2, 3, 5}, {2, 0, 2, 5},
            {4, 0, 2, 5}, {11, 0, 2, 5}, {3, 1, 3, 5}};
        for (int k = 0; k < want.length; k++) {
            for (int what = 0; what < 4; what++) {
                d.due(k + " " + what, d.x.settled(k, what), want[k][what]);
            }
        }
        d.due("not so many", d.x.settled(10, 0), NONE);
    }

    /** Asked ahead of a change and behind it. */
    static void p23AnewAfterEachChange() {
        Desk d = new Desk("rule A=a;rule B=a cost 2;", "a");
        d.due("A", d.x.settled(0, 0), 0).due("B", d.x.settled(1, 0), 1);
        d.x.prices(0, 5);
        d.due("B", d.x.settled(0, 0), 1).due("A", d.x.settled(1, 0), 0).due("5", d.x.settled(1, 3), 5);
        d.x.drops(1, 1);
        d.due("A", d.x.settled(0, 0), 0).due("no more", d.x.settled(1, 0), NONE);
        d.say("ba");
        d.due("over the second", d.x.settled(0, 1), 1).due("no more", d.x.settled(1, 0), NONE);
        d.x.drops(1, 0);
        d.due("B", d.x.settled(0, 0), 1).due("A", d.x.settled(1, 0), 0).due("no more", d.x.settled(2, 0), NONE);
        d.grammar("rule C=b;");
        d.due("C", d.x.settled(0, 0), 2).due("no more", d.x.settled(1, 0), NONE);
        d.say("");
        d.due("none", d.x.settled(0, 0), NONE);
    }

    // ---- 30 cheap ----

    static void p30LabelsAndSpans() {
        Edges.item((x, label, i, j) -> x.cheap(label, i, j, 0));
        Edges.item((x, label, i, j) -> x.cheap(label, i, j, 300));
    }

    static void p30CFrom0To300() {
        Desk d = new Desk("rule A=A;rule A=a;", "ab");
        d.due("0", d.x.cheap(0, 0, 1, 0), 0).due("1", d.x.cheap(0, 0, 1, 1), 1).due("299", d.x.cheap(0, 0, 1, 299), 299);
        d.due("300", d.x.cheap(0, 0, 1, 300), 300).due("301", d.x.cheap(0, 0, 1, 301), REFUSED);
        d.due("-1", d.x.cheap(0, 0, 1, -1), REFUSED).due("lowest", d.x.cheap(0, 0, 1, LOWEST), REFUSED);
        d.due("highest", d.x.cheap(0, 0, 1, HIGHEST), REFUSED).due("the next call", d.x.cheap(0, 0, 1, 2), 2);
        d.due("without trees", d.x.cheap(0, 0, 2, 300), 0).due("without trees", d.x.cheap(0, 1, 2, 300), 0);
        d.due("301 without trees", d.x.cheap(0, 1, 2, 301), REFUSED);
    }

    static void p30NoMoreThanC() {
        Desk d = new Desk("rule A=B cost 99;rule B=C cost 99;rule C=D cost 99;rule D=a cost 3;rule D=a cost 4;", "a");
        d.due("299", d.x.cheap(0, 0, 1, 299), 0).due("300", d.x.cheap(0, 0, 1, 300), 1);
        d.x.prices(3, 2);
        d.due("298", d.x.cheap(0, 0, 1, 298), 0).due("299", d.x.cheap(0, 0, 1, 299), 1).due("300", d.x.cheap(0, 0, 1, 300), 1);
        d.x.prices(4, 3);
        d.due("both", d.x.cheap(0, 0, 1, 300), 2);
        d.x.prices(3, 99);
        d.x.prices(4, 99);
        d.due("all are dearer than 300", d.x.cheap(0, 0, 1, 300), 0).due("but it has trees", d.x.can(0, 0, 1), 1);
    }

    static void p30JustAsManyAsAreTold() {
        Desk d = new Desk(Grammars.EDGE + "rule G=G;rule G=B;", "aaaaaaab");
        d.due("10^15", d.x.cheap(0, 0, 8, 22), MOST).due("and no more", d.x.cheap(0, 0, 8, 300), MOST);
        d.due("one", d.x.cheap(1, 0, 8, 22), 1).due("10^15 + 1", d.x.cheap(1, 0, 8, 23), TOO_GREAT);
        // G has one of each cost from 9 on, and 10^15 of cost 24.
        d.due("9 to 23", d.x.cheap(6, 0, 8, 23), 15).due("a ring above it", d.x.cheap(6, 0, 8, 24), TOO_GREAT);
        d.due("c 301", d.x.cheap(1, 0, 8, 301), REFUSED).due("fewer again", d.x.cheap(6, 0, 8, 9), 1);
    }

    /** A has one tree of each cost; B a pair of them. */
    static void p30PairsOfAllCosts() {
        Desk d = new Desk("rule A=A;rule A=a;rule B=AA;", "aa");
        d.due("2", d.x.cheap(1, 0, 2, 2), 0).due("3", d.x.cheap(1, 0, 2, 3), 1).due("4", d.x.cheap(1, 0, 2, 4), 3);
        d.due("5", d.x.cheap(1, 0, 2, 5), 6).due("300", d.x.cheap(1, 0, 2, 300), 299 * 298 / 2);
        d.due("299, behind it", d.x.cheap(1, 0, 2, 299), 298 * 297 / 2);
    }

    /** 2 to the 36th trees of one cost, beside one of 1 and one of 3, none of 2. */
    static void p30ManyBesideNone() {
        StringBuilder text = new StringBuilder("rule A=BC;rule C=x;rule C=x cost 3;rule B=DB;rule B=D;");
        for (char label = 'D'; label <= 'L'; label++) {
            char next = label == 'L' ? 'a' : (char) (label + 1);
            text.append(("rule " + label + "=" + next + ";").repeat(2));
        }
        Desk d = new Desk(text.toString(), "aaaax");
        d.due("41", d.x.cheap(0, 0, 5, 41), 0).due("42", d.x.cheap(0, 0, 5, 42), 1L << 36);
        d.due("43", d.x.cheap(0, 0, 5, 43), 1L << 36).due("44", d.x.cheap(0, 0, 5, 44), 1L << 37);
        d.due("300", d.x.cheap(0, 0, 5, 300), 1L << 37);
    }

    static void p30AnewAfterEachChange() {
        Desk d = new Desk("rule A=A;rule A=A;rule A=A;rule A=a;", "a");
        d.due("3^32 and all below", d.x.cheap(0, 0, 1, 33), TOO_GREAT);
        d.x.drops(1, 1);
        d.x.drops(2, 1);
        d.due("one of each cost", d.x.cheap(0, 0, 1, 300), 300);
        d.x.prices(0, 2);
        d.due("of 1, 3, 5 ..", d.x.cheap(0, 0, 1, 300), 150);
        d.x.drops(1, 0);
        d.x.drops(2, 0);
        d.due("many", d.x.cheap(0, 0, 1, 300), TOO_GREAT);
        d.say("b");
        d.due("none", d.x.cheap(0, 0, 1, 300), 0);
        d.grammar("rule A=b;");
        d.due("one", d.x.cheap(0, 0, 1, 300), 1).due("none for nothing", d.x.cheap(0, 0, 1, 0), 0);
    }
}
