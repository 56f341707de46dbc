import java.util.ArrayList;
import java.util.List;

/** Terms II and III, the lines on TOO_GREAT and on -2, and how long an object is used. */
public final class TermsEdgesTest {
    private static final int NONE = Edges.NONE;
    private static final int ENDLESS = Edges.ENDLESS;
    private static final int TOO_GREAT = Edges.TOO_GREAT;
    private static final int UNSETTLED = Edges.UNSETTLED;
    private static final int REFUSED = Edges.REFUSED;
    private static final int FAULTY = Edges.FAULTY;
    private static final long MOST = 1000000000000000L;
    private static final int MOST_CALLS = 512;
    private static final String PAIRS = "rule A=AA cost 2;rule A=a;";

    public static void main(String[] args) {
        Edges.run(TermsEdgesTest.class, "t2", "t3", "tGreat", "tRefused", "tCalls");
    }

    // ---- II: SENTENCE, SPANS ----

    static void t2EightLettersAtMost() {
        Desk d = new Desk(PAIRS, "");
        d.due("eight", d.say("aaaaaaaa"), 8).due("nine", d.say("aaaaaaaaa"), FAULTY).due("eight still", d.x.can(0, 0, 8), 1);
        d.due("none", d.say(""), 0).due("nine", d.say("aaaaaaaaa"), FAULTY).due("none still", d.x.count(1), 0);
    }

    /** All pairs of i and j about eight letters: a SPAN, if i is below j and both are within. */
    static void t2IBelowJ() {
        Desk d = new Desk(PAIRS, "aaaaaaaa");
        for (int i = -2; i <= 10; i++) {
            for (int j = -2; j <= 10; j++) {
                boolean span = i >= 0 && i < j && j <= 8;
                d.due(i + " .. " + j, d.x.can(0, i, j), span ? 1 : REFUSED);
            }
        }
    }

    /** From the i-th (from 0) up to the one ahead of the j-th. */
    static void t2FromTheIthToAheadOfTheJth() {
        Desk d = new Desk("rule A=a b;rule B=b c;rule C=c;", "abc");
        d.due("0, 1", d.x.can(0, 0, 2), 1).due("1, 2", d.x.can(1, 1, 3), 1).due("2", d.x.can(2, 2, 3), 1);
        d.due("not 1, 2", d.x.can(0, 1, 3), 0).due("not 1", d.x.can(2, 1, 2), 0);
    }

    // ---- II: CASES ----

    static void t2OnePartIsOverAllOfIt() {
        Desk d = new Desk("rule A=B;rule B=b c;rule C=c;rule D=d;", "bcd");
        d.due("bc", d.x.can(0, 0, 2), 1).due("b", d.x.can(0, 0, 1), 0).due("bcd", d.x.can(0, 0, 3), 0);
        d.due("a case over each span, trees or not", d.x.cases(0, 0, 3, 0), 1).due("C", d.x.can(2, 1, 2), 1);
    }

    static void t2ALetterIsOverItselfAlone() {
        Desk d = new Desk("rule A=a;rule B=a B;rule B=B a;rule C=a a;rule D=b B;", "aaaa");
        d.due("one", d.x.cases(0, 0, 1, 0), 1).due("not two", d.x.cases(0, 0, 2, 0), 0);
        d.due("first, then last", d.x.cases(1, 0, 4, 0), 2).due("not one", d.x.cases(1, 0, 1, 0), 0);
        d.due("both", d.x.cases(2, 0, 2, 0), 1).due("not three", d.x.cases(2, 0, 3, 0), 0).due("nor one", d.x.cases(2, 0, 1, 0), 0);
        d.due("another letter", d.x.cases(3, 0, 4, 0), 0);
    }

    static void t2IBelowMBelowJ() {
        Desk d = new Desk("rule A=BC;rule B=b;rule B=bB;rule C=b;rule C=bC;", "bbbbbbbb");
        for (int length = 1; length <= 8; length++) {
            d.due(length + " letters", d.x.cases(0, 0, length, 0), length - 1);
            d.due("at the end", d.x.cases(0, 8 - length, 8, 1), length - 1);
        }
        for (int k = 0; k < 7; k++) {
            d.due("m " + (k + 1), d.x.bounds(k, 0, 1), k + 1);
        }
        d.due("none behind 7", d.x.bounds(7, 0, 1), NONE);
    }

    /** With the last rule OUT every call answers as if it had never been told. */
    static void t2RulesThatAreOut() {
        String rest = "rule A=AB cost 3;rule A=a;rule B=b as 0;rule B=A cost 2;rule C=C;";
        for (String last : new String[] {"rule A=B cost 1;", "rule B=BA as 0;", "rule C=b;", "rule A=b;", "rule A=a a;"}) {
            Desk out = new Desk(rest + last, "aba");
            Desk never = new Desk(rest, "aba");
            out.x.drops(5, 1);
            out.due(last + " is OUT", out.answers(), never.answers());
        }
    }

    /** Plus is its second one if that is not 0; so the last case in order tells. */
    static void t2CasesByRuleThenM() {
        String last = "table 5 zero 0 one 1 plus 0 1 2 3 4 1 1 2 3 4 2 1 2 3 4 3 1 2 3 4 4 1 2 3 4"
            + " times 0 0 0 0 0 0 1 2 3 4 0 2 0 0 0 0 3 0 0 0 0 4 0 0 0;";
        Desk d = new Desk(last + "rule A=b as 3;rule A=b as 2;", "b");
        d.due("rule 1 is behind rule 0", d.x.value(0, 0, 1), 2);
        d.grammar(last + "rule A=BC;rule B=b as 2;rule B=B b;rule C=b;rule C=b C;rule B=b b as 3;");
        d.say("bbb");
        // m 1: 2 times C over bb, 2; m 2: B over bb is 3, the last of its cases, times 1.
        d.due("m 2 is behind m 1", d.x.value(0, 0, 3), 3);
    }

    // ---- II: TREES ----

    static void t2CostOfEachRuleAsOftenAsItStands() {
        Desk d = new Desk(PAIRS, "aaaaaaaa");
        d.due("seven pairs, eight letters", d.x.least(0, 0, 8), 7 * 2 + 8).due("one", d.x.least(0, 0, 1), 1);
        d.x.prices(1, 99);
        d.due("eight times 99", d.x.best(0, 0, 8, 0), 7 * 2 + 8 * 99);
    }

    private static String steps(Desk d, int label, int j, int k) {
        StringBuilder text = new StringBuilder();
        for (int n = 0; d.x.step(label, 0, j, k, n) >= 0; n++) {
            text.append(d.x.step(label, 0, j, k, n)).append(' ');
        }
        return text.toString().trim();
    }

    static void t2StepsOfTheFirstLabelThenTheOther() {
        Desk d = new Desk("rule A=BC;rule C=c;rule B=D;rule D=b;rule E=b C;rule F=B c;", "bc");
        d.due("the first LABEL's tree first", steps(d, 0, 2, 0), "0 2 3 1");
        d.due("a letter has none", steps(d, 4, 2, 0), "4 1").due("a letter behind", steps(d, 5, 2, 0), "5 2 3");
    }

    static void t2OrderByCostFirst() {
        Desk d = new Desk("rule A=a cost 2;rule A=a;rule A=a cost 3;rule A=a cost 2;", "a");
        String[] want = {"1", "0", "3", "2", ""};
        for (int k = 0; k < want.length; k++) {
            d.due("tree " + k, steps(d, 0, 1, k), want[k]);
        }
    }

    static void t2OrderOfLikeCostByRule() {
        Desk d = new Desk("rule A=B;rule A=a cost 2;rule A=C;rule B=a;rule C=a;", "a");
        String[] want = {"0 3", "1", "2 4", ""};
        for (int k = 0; k < want.length; k++) {
            d.due("tree " + k, steps(d, 0, 1, k), want[k]);
        }
    }

    /** Rules that go on to a label are ahead of a dearer letter, if their numbers are. */
    static void t2OrderOfLikeCostByRuleOfThree() {
        Desk d = new Desk("rule A=B;rule A=C;rule A=a cost 2;rule A=D;rule B=a;rule C=a;rule D=a;", "a");
        String[] want = {"0 4", "1 5", "2", "3 6", ""};
        for (int k = 0; k < want.length; k++) {
            d.due("tree " + k, steps(d, 0, 1, k), want[k]);
        }
    }

    static void t2OrderOfLikeCostByRuleAheadOfM() {
        Desk d = new Desk("rule A=BC;rule A=CB;rule B=b;rule C=b b cost 2;rule C=b;rule B=b b cost 2;", "bbb");
        // Rule 0 with m 1, then with m 2, then rule 1 with both.
        String[] want = {"0 2 3", "0 5 4", "1 4 5", "1 3 2", ""};
        for (int k = 0; k < want.length; k++) {
            d.due("tree " + k, steps(d, 0, 3, k), want[k]);
        }
    }

    /** By the first one's RULE, though the other order would be by what it costs. */
    static void t2OrderOfLikeCostByTheFirstTreeWhateverItCosts() {
        Desk d = new Desk("rule A=BC;rule B=b cost 9;rule B=b;rule C=b;rule C=b cost 9;", "bb");
        String[] want = {"0 2 3", "0 1 3", "0 2 4", "0 1 4", ""};
        for (int k = 0; k < want.length; k++) {
            d.due("tree " + k, steps(d, 0, 2, k), want[k]);
        }
        d.x.prices(1, 2);
        d.x.prices(4, 2);
        d.due("rule 1 is ahead, dear as it is", steps(d, 0, 2, 1), "0 1 3");
    }

    static void t2OrderOfLikeCostByTheOtherTree() {
        Desk d = new Desk("rule A=BC;rule B=b;rule C=D cost 1;rule C=b cost 3;rule C=E cost 2;rule D=b cost 2;rule E=b;", "bb");
        String[] want = {"0 1 2 5", "0 1 3", "0 1 4 6", ""};
        for (int k = 0; k < want.length; k++) {
            d.due("tree " + k, steps(d, 0, 2, k), want[k]);
        }
    }

    static void t2OrderOfLikeCostBehindALetter() {
        Desk d = new Desk("rule A=a B;rule B=b;rule B=b;rule B=b;rule C=B a;", "ab");
        String[] want = {"0 1", "0 2", "0 3", ""};
        for (int k = 0; k < want.length; k++) {
            d.due("tree " + k, steps(d, 0, 2, k), want[k]);
        }
        d.say("ba");
        d.due("ahead of a letter", steps(d, 2, 2, 2), "4 3").due("no more", steps(d, 2, 2, 3), "");
    }

    /** The first part's trees differ in their own part alone: its rule is ahead, dear as it is. */
    static void t2OrderOfLikeCostByAPartOfAPart() {
        String rest = "rule C=c cost 5;rule C=c;rule D=d;rule D=d cost 5;";
        String[] want = {"0 1 3 4", "0 1 2 4", "0 1 3 5", "0 1 2 5", ""};
        Desk d = new Desk("rule A=BD;rule B=b C;" + rest, "bcd");
        for (int k = 0; k < want.length; k++) {
            d.due("tree " + k, steps(d, 0, 3, k), want[k]);
        }
        d.grammar("rule A=BD;rule B=EC;" + rest + "rule E=b;");
        String[] more = {"0 1 6 3 4", "0 1 6 2 4", "0 1 6 3 5", "0 1 6 2 5", ""};
        for (int k = 0; k < more.length; k++) {
            d.due("tree " + k, steps(d, 0, 3, k), more[k]);
        }
        d.x.prices(2, 1);
        d.x.prices(3, 5);
        String[] other = {"0 1 6 2 4", "0 1 6 2 5", "0 1 6 3 4", "0 1 6 3 5", ""};
        for (int k = 0; k < other.length; k++) {
            d.due("other costs, tree " + k, steps(d, 0, 3, k), other[k]);
        }
    }

    /** The parts of the parts: the m of the first part's tree is ahead of the rules of the other part. */
    static void t2OrderOfLikeCostAndSoOn() {
        Desk d = new Desk("rule A=BD;rule B=BB;rule B=b;rule D=d;rule D=d;", "bbbd");
        d.due("m 1, rule 3", steps(d, 0, 4, 0), "0 1 2 1 2 2 3").due("m 1, rule 4", steps(d, 0, 4, 1), "0 1 2 1 2 2 4");
        d.due("m 2, rule 3", steps(d, 0, 4, 2), "0 1 1 2 2 2 3").due("m 2, rule 4", steps(d, 0, 4, 3), "0 1 1 2 2 2 4");
        d.due("no more", steps(d, 0, 4, 4), "");
    }

    // ---- III: SUM ----

    static void t3SumIs0WithoutTrees() {
        Desk d = new Desk("rule A=A;rule A=a;rule B=B;rule B=AC;", "ab");
        d.due("of a span that does not fail", d.x.sum(1, 0, 2), 0).due("of one that fails", d.x.sum(1, 0, 1), 0);
    }

    static void t3NoSolution() {
        Desk d = new Desk("rule A=A;rule A=a;", "a");
        d.due("x is x + 1", d.x.sum(0, 0, 1), NONE);
        d.x.prices(0, 2);
        d.due("x is 2 x + 1", d.x.sum(0, 0, 1), 9972);
        d.x.prices(0, 1);
        d.due("again", d.x.sum(0, 0, 1), NONE);
    }

    /** Over bc the other cases are 9973 together, which is 0: x is x has 9973 solutions. */
    static void t3MoreThanOneSolution() {
        Desk d = new Desk("rule A=BC cost 99;rule A=b c cost 99;rule A=b c cost 73;rule B=b cost 99;rule C=c;rule A=A;", "bc");
        d.due("x is x", d.x.sum(0, 0, 2), NONE).due("B over b", d.x.sum(1, 0, 1), 99);
        d.x.prices(5, 2);
        d.due("x is 2 x: 0 alone", d.x.sum(0, 0, 2), 0);
        d.x.drops(5, 1);
        d.due("0", d.x.sum(0, 0, 2), 0);
    }

    /** 88 times 85 times 4 is 1 modulo 9973: a ring of three fails, and its neighbours do not. */
    static void t3ARingOfThree() {
        Desk d = new Desk("rule A=B cost 88;rule B=C cost 85;rule C=A cost 4;rule A=a;rule D=a cost 7;rule E=E;", "ab");
        d.due("A", d.x.sum(0, 0, 1), NONE).due("B", d.x.sum(1, 0, 1), NONE).due("C", d.x.sum(2, 0, 1), NONE);
        d.due("D has trees over that span, too", d.x.sum(3, 0, 1), NONE).due("E has none", d.x.sum(4, 0, 1), 0);
        d.x.drops(0, 1);
        d.due("no ring: D", d.x.sum(3, 0, 1), 7).due("A", d.x.sum(0, 0, 1), 1).due("C", d.x.sum(2, 0, 1), 4);
        d.due("B", d.x.sum(1, 0, 1), 340);
    }

    /** The equations x is x + y and y is x + 1: the first has no x of its own, and yet there is one solution. */
    static void t3OneSolutionInAnotherOrder() {
        Desk d = new Desk("rule A=A;rule A=B;rule B=A;rule B=a;", "a");
        d.due("x", d.x.sum(0, 0, 1), 9972).due("y", d.x.sum(1, 0, 1), 0).due("it has trees", d.x.can(1, 0, 1), 1);
        d.grammar("rule A=A;rule A=B;rule B=B;rule B=C;rule C=A;rule C=a;");
        // y is 0, then z is 0, and 0 is x + 1.
        d.due("x", d.x.sum(0, 0, 1), 9972).due("y", d.x.sum(1, 0, 1), 0).due("z", d.x.sum(2, 0, 1), 0);
    }

    /** 88 times 170 is 4987 modulo 9973, and 1 less 4987 is the half of 1; 277 times 36 is 1 less than 9973. */
    static void t3OneSolutionByAnyNumber() {
        Desk d = new Desk("rule A=B cost 88;rule B=A cost 99;rule B=A cost 71;rule B=b;", "b");
        d.due("B", d.x.sum(1, 0, 1), 2).due("A", d.x.sum(0, 0, 1), 176);
        d.grammar("rule A=B cost 36;rule B=b;rule C=A cost 99;rule C=A cost 99;rule C=A cost 79;");
        d.due("C", d.x.sum(2, 0, 1), 9972).due("A", d.x.sum(0, 0, 1), 36);
    }

    /** Twelve equations, and none of them has a solution: once round the ring is once again. */
    static void t3TwelveEquations() {
        Desk d = new Desk(Grammars.bigRing(), "a");
        for (int label = 0; label < 12; label++) {
            d.due("label " + label, d.x.sum(label, 0, 1), NONE);
        }
        d.x.prices(0, 2);
        // x is 2 x + 2 for A, by all ways round.
        d.due("A", d.x.sum(0, 0, 1), 9971).due("L", d.x.sum(11, 0, 1), 9972).due("B", d.x.sum(1, 0, 1), 9972);
    }

    static void t3ASpanFailsByAnother() {
        Desk d = new Desk("rule A=A;rule A=a;rule B=Ab;rule C=Bc;rule D=a b;rule E=b;rule F=aE;", "abc");
        d.due("a", d.x.sum(0, 0, 1), NONE).due("ab by A", d.x.sum(1, 0, 2), NONE).due("abc by ab", d.x.sum(2, 0, 3), NONE);
        d.due("D over ab, too", d.x.sum(3, 0, 2), NONE).due("F over ab, too", d.x.sum(5, 0, 2), NONE);
        d.due("b does not", d.x.sum(4, 1, 2), 1);
        d.x.drops(2, 1);
        d.due("ab without that case", d.x.sum(3, 0, 2), 1).due("F", d.x.sum(5, 0, 2), 1).due("abc has none", d.x.sum(2, 0, 3), 0);
    }

    /** A CASE one of whose ITEMS has no TREES does not count, whatever the other one is. */
    static void t3ASpanDoesNotFailByACaseWithoutTrees() {
        Desk d = new Desk("rule A=A;rule A=a;rule B=AC;rule B=a b cost 5;rule C=c;rule B=CA;", "ab");
        d.due("a fails", d.x.sum(0, 0, 1), NONE).due("ab does not", d.x.sum(1, 0, 2), 5);
        d.grammar("rule A=A;rule A=a;rule B=AC;rule B=a b cost 5;rule C=b;");
        d.due("with C over b it does", d.x.sum(1, 0, 2), NONE);
    }

    // ---- III: VALUE ----

    static void t3ZeroAtFirst() {
        Desk d = new Desk("table 3 zero 2 one 1 plus 0 0 0 1 1 1 2 2 2 times" + " 0".repeat(9) + ";rule A=a;", "a");
        d.due("plus is its first one: all stay zero", d.x.value(0, 0, 1), 2).due("one round", d.x.rounds(), 1);
    }

    /** By the VALUES ahead of the round: B sees what A was, not what it becomes. */
    static void t3ByTheValuesAheadOfIt() {
        Desk up = new Desk("rule A=a;rule B=A;rule C=B;", "a");
        up.due("A, B, C, none", up.x.rounds(), 4);
        Desk down = new Desk("rule C=a;rule B=C;rule A=B;", "a");
        down.due("C, B, A, none", down.x.rounds(), 4);
    }

    static void t3TreesOrNot() {
        // Times is 1 whatever it is told: C has no TREES, and its case counts.
        Desk d = new Desk("table 2 zero 0 one 1 plus 0 1 1 1 times 1 1 1 1;rule A=C;rule B=AC;", "ab");
        d.due("no trees", d.x.can(0, 0, 1), 0).due("its value", d.x.value(0, 0, 1), 1);
        d.due("of two", d.x.value(1, 0, 2), 1).due("no cases", d.x.value(2, 0, 1), 0).due("no m", d.x.value(1, 0, 1), 0);
    }

    /** (E times the first) times the second: 2 times 1 is 2, 2 times 2 is 0, and 1 times 2 is 1. */
    static void t3ProductsFromTheLeft() {
        Desk d = new Desk("table 3 zero 0 one 1 plus 0 1 2 1 1 2 2 2 2 times 0 0 0 0 1 1 0 2 0;"
            + "rule A=BC as 2;rule B=b;rule C=b as 2;", "bb");
        d.due("B", d.x.value(1, 0, 1), 1).due("C", d.x.value(2, 1, 2), 2).due("(2 1) 2, not 2 (1 2)", d.x.value(0, 0, 2), 0);
    }

    /** A LETTER is one, also as the second PART, and where one is no unit. */
    static void t3ALetterIsOne() {
        Desk d = new Desk("table 3 zero 0 one 2 plus 0 1 2 1 1 2 2 2 2 times 0 1 1 0 1 2 0 2 1;"
            + "rule A=a as 1;rule B=a b as 1;rule C=Ab as 1;rule D=a as 2;rule E=aF as 2;rule F=b as 1;", "ab");
        d.due("1 times 2", d.x.value(0, 0, 1), 2).due("(1 2) 2", d.x.value(1, 0, 2), 1).due("(1 2) 2", d.x.value(2, 0, 2), 1);
        d.due("2 times 2", d.x.value(3, 0, 1), 1).due("(2 2) 2", d.x.value(4, 0, 2), 2);
    }

    static void t3ARoundThatChangesNoneCounts() {
        Desk d = new Desk("rule A=a;", "");
        d.due("no items", d.x.rounds(), 1);
        d.say("b");
        d.due("none changes", d.x.rounds(), 1);
        d.say("a");
        d.due("one, then none", d.x.rounds(), 2);
    }

    static void t3HundredRounds() {
        Desk d = new Desk(Grammars.slow(), "aaa");
        int last = d.x.count(0) - 1;
        d.due("each of 100 changes one", d.x.rounds(), UNSETTLED).due("value", d.x.value(0, 0, 1), UNSETTLED);
        d.due("laws", d.x.laws(), UNSETTLED);
        d.x.drops(last, 1);
        d.due("the 100th changes none", d.x.rounds(), 100).due("value", d.x.value(10, 0, 3), 4);
        d.due("laws are told", d.x.laws() >= 0 ? 1 : 0, 1);
    }

    // ---- TOO_GREAT ----

    static void tGreatMoreThan() {
        Desk d = new Desk(Grammars.EDGE, "aaaaaaab");
        d.due("just so many", d.x.ways(0, 0, 8), MOST).due("one more", d.x.ways(1, 0, 8), TOO_GREAT);
        d.due("just so many", d.x.cheap(0, 0, 8, 300), MOST).due("one more", d.x.cheap(1, 0, 8, 300), TOO_GREAT);
    }

    /** 2 to the 63rd and 64th, and more than a long holds by sums: none comes round. */
    static void tGreatBeyondALong() {
        StringBuilder text = new StringBuilder("rule A=BC;rule C=xB;rule B=DB;rule B=D;".replace("xB", "x B"));
        for (char label = 'D'; label <= 'L'; label++) {
            char next = label == 'L' ? 'a' : (char) (label + 1);
            text.append(("rule " + label + "=" + next + ";").repeat(2));
        }
        Desk d = new Desk(text.toString(), "aaaaxaaa");
        d.due("2^36", d.x.ways(1, 0, 4), 1L << 36).due("2^27", d.x.ways(2, 4, 8), 1L << 27);
        d.due("2^63", d.x.ways(0, 0, 8), TOO_GREAT).due("2^63", d.x.cheap(0, 0, 8, 300), TOO_GREAT);
        d.say("aaaaaxaa");
        d.due("2^45 is told", d.x.ways(1, 0, 5), 1L << 45).due("2^63 by 2^45", d.x.ways(0, 0, 8), TOO_GREAT);
        d.say("aaaaaaaa");
        d.due("2^54", d.x.ways(1, 0, 6), TOO_GREAT).due("2^72", d.x.ways(1, 0, 8), TOO_GREAT);
        d.due("2^72", d.x.cheap(1, 0, 8, 300), TOO_GREAT);
    }

    // ---- -2 ahead of all others ----

    static void tRefusedAheadOfNone() {
        Desk d = new Desk(PAIRS, "b");
        d.due("least", d.x.least(12, 0, 1), REFUSED).due("dearest", d.x.dearest(-1, 0, 1), REFUSED);
        d.due("best", d.x.best(0, 0, 1, 16), REFUSED).due("size k", d.x.size(0, 0, 1, 16, 0), REFUSED);
        d.due("size what", d.x.size(0, 0, 1, 0, 2), REFUSED).due("step k", d.x.step(0, 0, 1, 16, 0), REFUSED);
        d.due("step n", d.x.step(0, 0, 1, 0, -1), REFUSED).due("bounds k", d.x.bounds(16, 0, 0), REFUSED);
        d.due("bounds n", d.x.bounds(0, -1, 0), REFUSED).due("bounds what", d.x.bounds(0, 0, 3), REFUSED);
        d.due("tell", d.x.tell(0, 0, 1, 16), REFUSED).due("alike k", d.x.alike(0, 0, 1, 16, 0), REFUSED);
        d.due("alike l", d.x.alike(0, 0, 1, 0, 16), REFUSED).due("settled", d.x.settled(0, 4), REFUSED);
        d.due("without", d.x.without(2), REFUSED).due("mend", d.x.mend(3), REFUSED).due("used", d.x.used(0, 0, 1, 2), REFUSED);
        d.due("cheap", d.x.cheap(0, 0, 1, 301), REFUSED);
        d.say("");
        d.due("without, no letters", d.x.without(2), REFUSED).due("mend, no letters", d.x.mend(-1), REFUSED);
        d.due("bounds, no letters", d.x.bounds(-1, 0, 0), REFUSED);
        d.grammar("rule A=A;rule A=a;");
        d.say("a");
        d.due("the span fails", d.x.sum(0, 0, 1), NONE).due("sum", d.x.sum(12, 0, 1), REFUSED);
    }

    static void tRefusedAheadOfTheOthers() {
        Desk d = new Desk(Grammars.FLIP + "rule A=A;rule A=a;", "a");
        d.due("ENDLESS", d.x.ways(0, 0, 1), ENDLESS).due("ways", d.x.ways(12, 0, 1), REFUSED).due("span", d.x.ways(0, 0, 2), REFUSED);
        d.due("UNSETTLED", d.x.value(0, 0, 1), UNSETTLED).due("value", d.x.value(12, 0, 1), REFUSED);
        d.due("span", d.x.value(0, 1, 1), REFUSED);
        Desk e = new Desk(Grammars.EDGE, "aaaaaaab");
        e.due("TOO_GREAT", e.x.ways(1, 0, 8), TOO_GREAT).due("ways", e.x.ways(1, 0, 9), REFUSED);
        e.due("TOO_GREAT", e.x.cheap(1, 0, 8, 300), TOO_GREAT).due("cheap", e.x.cheap(1, 0, 8, 301), REFUSED);
        e.due("span", e.x.cheap(1, 8, 8, 300), REFUSED);
    }

    /** One wrong number is enough, and which of several it is does not matter. */
    static void tRefusedForOneOrAll() {
        Desk d = new Desk(PAIRS, "aa");
        d.due("drops", d.x.drops(2, 2), REFUSED).due("prices", d.x.prices(2, 100), REFUSED);
        d.due("elements", d.x.elements(2, 2), REFUSED).due("rule", d.x.rule(2, 6), REFUSED).due("table", d.x.table(2, 2, 2), REFUSED);
        d.due("used", d.x.used(12, 2, 2, 2), REFUSED).due("cases", d.x.cases(12, 2, 2, 3), REFUSED);
        d.due("settled", d.x.settled(-1, 4), REFUSED).due("size", d.x.size(12, 2, 2, 16, 2), REFUSED);
        d.due("step", d.x.step(12, 2, 2, 16, -1), REFUSED).due("bounds", d.x.bounds(16, -1, 3), REFUSED);
        d.due("alike", d.x.alike(12, 2, 2, 16, 16), REFUSED).due("cheap", d.x.cheap(12, 2, 2, 301), REFUSED);
    }

    /** Where something else is told, it is NONE. */
    static void tRefusedWhereNothingElseIsTold() {
        Desk d = new Desk(PAIRS, "aa");
        d.due("end", d.x.end(-1), NONE).due("end", d.x.end(1), NONE).due("fault", d.x.fault(2), NONE);
        d.due("count", d.x.count(10), NONE).due("octet", d.x.octet(-1), NONE).due("settled", d.x.settled(3, 0), NONE);
    }

    // ---- 512 calls ----

    /** A call whatever it is told, at the end of a run. */
    private interface Call {
        long of(SpanValues x);
    }

    private static List<Call> calls() {
        List<Call> all = new ArrayList<>();
        all.add(x -> x.feed(1, 2, 3, 4, 5));
        all.add(x -> x.end(0));
        all.add(x -> x.grammar());
        all.add(x -> x.fault(0));
        all.add(x -> x.say());
        all.add(x -> x.count(6));
        all.add(x -> x.rule(1, 1));
        all.add(x -> x.table(0, 1, 1));
        all.add(x -> x.drops(0, 1));
        all.add(x -> x.prices(0, 9));
        all.add(x -> x.elements(0, 0));
        all.add(x -> x.can(0, 0, 4));
        all.add(x -> x.least(0, 0, 4));
        all.add(x -> x.ways(0, 0, 4));
        all.add(x -> x.dearest(0, 0, 4));
        all.add(x -> x.used(0, 0, 4, 1));
        all.add(x -> x.sum(0, 0, 4));
        all.add(x -> x.value(0, 0, 4));
        all.add(x -> x.rounds());
        all.add(x -> x.laws());
        all.add(x -> x.cases(0, 0, 1, 2));
        all.add(x -> x.settled(9, 3));
        all.add(x -> x.best(0, 0, 4, 4));
        all.add(x -> x.size(0, 0, 4, 0, 1));
        all.add(x -> x.step(0, 0, 4, 4, 6));
        all.add(x -> x.bounds(4, 0, 1));
        all.add(x -> x.tell(0, 0, 4, 2));
        all.add(x -> x.octet(0));
        all.add(x -> x.cheap(0, 0, 4, 10));
        all.add(x -> x.alike(0, 0, 4, 0, 1));
        all.add(x -> x.without(1));
        all.add(x -> x.heads());
        all.add(x -> x.mends());
        all.add(x -> x.mend(0));
        all.add(x -> x.rings());
        all.add(x -> x.alive());
        return all;
    }

    /** What these calls answer on four a with PAIRS, each by itself. */
    private static final long[] ANSWERS = {20, 0, 0, 0, 0, 10, 100, 1, 1, 2, 1, 1, 10, 5, 2, 3, 40, 1, 4, 511, 3, 10, 10,
        4, 1, 3, 35, NONE, 5, 2, NONE, 30, 0, NONE, 0, 3};

    static void tCallsTheLastOf512() {
        List<Call> all = calls();
        for (int last = 0; last < all.size(); last++) {
            Desk d = new Desk();
            int[] n = Desk.numbers(PAIRS, 0);
            int[] more = Desk.numbers(PAIRS, 20);
            d.x.feed(n[0], n[1], n[2], n[3], n[4]);
            d.x.feed(more[0], more[1], more[2], more[3], more[4]);
            d.x.end(PAIRS.length());
            d.x.grammar();
            d.x.feed(0x61616161, 0, 0, 0, 0);
            d.x.end(4);
            d.x.say();
            // Calls 8 .. 511, three by three: another cost, and back again, so that all must be found anew.
            for (int call = 8; call < MOST_CALLS; call += 3) {
                d.due("it was 2", d.x.prices(0, 7), 2).due("three of 7, four of 1", d.x.least(0, 0, 4), 25);
                d.due("it was 7", d.x.prices(0, 2), 7);
            }
            d.due("the 512th, call " + last, all.get(last).of(d.x), ANSWERS[last]);
        }
    }
}
