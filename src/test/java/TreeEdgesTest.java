/** Promises 24 to 29, and 31: trees in their order, at their boundaries. */
public final class TreeEdgesTest {
    private static final int NONE = Edges.NONE;
    private static final int REFUSED = Edges.REFUSED;
    private static final int LOWEST = Edges.LOWEST;
    private static final int HIGHEST = Edges.HIGHEST;
    private static final String PAIRS = "rule A=AA cost 2;rule A=a;";
    private static final int[] WRONG_PLACES = {-1, 16, 17, LOWEST, HIGHEST};

    public static void main(String[] args) {
        Edges.run(TreeEdgesTest.class, "p24", "p25", "p26", "p27", "p28", "p29", "p31");
    }

    /** So many trees of A over a, one rule each: the k-th costs k and 1. */
    private static Desk trees(int number) {
        StringBuilder text = new StringBuilder();
        for (int rule = 0; rule < number; rule++) {
            text.append("rule A=a cost ").append(number - rule).append(';');
        }
        return new Desk(text.toString(), "a");
    }

    // ---- 24 best ----

    static void p24LabelsAndSpans() {
        Edges.item((x, label, i, j) -> x.best(label, i, j, 0));
        Edges.item((x, label, i, j) -> x.best(label, i, j, 15));
    }

    static void p24KFrom0To15() {
        Desk d = trees(17);
        String before = d.picture();
        for (int k : WRONG_PLACES) {
            d.due("k " + k, d.x.best(0, 0, 1, k), REFUSED);
        }
        d.due("stays", d.picture(), before).due("0", d.x.best(0, 0, 1, 0), 1).due("15", d.x.best(0, 0, 1, 15), 16);
    }

    static void p24NotSoMany() {
        for (int number : new int[] {1, 2, 14, 15, 16, 17, 40}) {
            Desk d = trees(number);
            for (int k = 0; k < 16; k++) {
                d.due("tree " + k + " of " + number, d.x.best(0, 0, 1, k), k < number ? k + 1 : NONE);
            }
        }
    }

    static void p24WithoutTrees() {
        Desk d = new Desk(PAIRS + "rule B=B;", "b");
        d.due("0", d.x.best(0, 0, 1, 0), NONE).due("15", d.x.best(0, 0, 1, 15), NONE).due("ring", d.x.best(1, 0, 1, 0), NONE);
        d.due("16", d.x.best(0, 0, 1, 16), REFUSED).due("-1", d.x.best(0, 0, 1, -1), REFUSED);
    }

    static void p24NoEndOfThem() {
        Desk d = new Desk("rule A=A cost 99;rule A=a cost 99;", "a");
        d.due("first", d.x.best(0, 0, 1, 0), 99).due("last", d.x.best(0, 0, 1, 15), 16 * 99);
        d.x.drops(0, 1);
        d.due("one", d.x.best(0, 0, 1, 1), NONE).due("it", d.x.best(0, 0, 1, 0), 99);
    }

    // ---- 25 size ----

    static void p25LabelsAndSpans() {
        Edges.item((x, label, i, j) -> x.size(label, i, j, 0, 0));
        Edges.item((x, label, i, j) -> x.size(label, i, j, 15, 1));
    }

    static void p25KAndWhat() {
        Desk d = trees(15);
        for (int k : WRONG_PLACES) {
            d.due("k " + k, d.x.size(0, 0, 1, k, 0), REFUSED).due("k " + k, d.x.size(0, 0, 1, k, 1), REFUSED);
        }
        for (int what : new int[] {-1, 2, 3, LOWEST, HIGHEST}) {
            d.due("what " + what, d.x.size(0, 0, 1, 0, what), REFUSED);
            d.due("of none, what " + what, d.x.size(0, 0, 1, 15, what), REFUSED);
        }
        d.due("the last one", d.x.size(0, 0, 1, 14, 0), 1).due("not so many", d.x.size(0, 0, 1, 15, 0), NONE);
        d.due("not so many", d.x.size(0, 0, 1, 15, 1), NONE).due("no trees", d.x.size(1, 0, 1, 0, 0), NONE);
    }

    static void p25LeastAndMost() {
        Desk d = new Desk("rule A=a;rule B=a b;", "ab");
        d.due("one step", d.x.size(0, 0, 1, 0, 0), 1).due("one in itself", d.x.size(0, 0, 1, 0, 1), 1);
        d.due("two letters", d.x.size(1, 0, 2, 0, 0), 1).due("one", d.x.size(1, 0, 2, 0, 1), 1);
        Desk ring = new Desk(Grammars.bigRing(), "aaaaaaaa");
        ring.due("15 times round", ring.x.size(0, 0, 1, 15, 0), 192).due("deep", ring.x.size(0, 0, 1, 15, 1), 192);
        ring.due("15 chains of twelve", ring.x.size(0, 0, 8, 0, 0), 180).due("429 such", ring.x.size(0, 0, 8, 15, 0), 180);
        // The first letter apart, and so on: the last two are eight chains deep.
        ring.due("eight chains", ring.x.size(0, 0, 8, 0, 1), 96);
    }

    static void p25DeepestOnEitherSide() {
        Desk d = new Desk("rule A=BC;rule B=D;rule D=d;rule C=d;rule E=CB;", "dd");
        d.due("the first", d.x.size(0, 0, 2, 0, 1), 3).due("the other", d.x.size(4, 0, 2, 0, 1), 3);
        d.due("steps", d.x.size(0, 0, 2, 0, 0), 4);
    }

    // ---- 26 step ----

    static void p26LabelsAndSpans() {
        Edges.item((x, label, i, j) -> x.step(label, i, j, 0, 0));
        Edges.item((x, label, i, j) -> x.step(label, i, j, 15, HIGHEST));
    }

    static void p26N() {
        Desk d = new Desk(PAIRS, "aa");
        d.due("the first", d.x.step(0, 0, 2, 0, 0), 0).due("the last", d.x.step(0, 0, 2, 0, 2), 1);
        d.due("not so many STEPS", d.x.step(0, 0, 2, 0, 3), NONE).due("highest", d.x.step(0, 0, 2, 0, HIGHEST), NONE);
        d.due("-1", d.x.step(0, 0, 2, 0, -1), REFUSED).due("lowest", d.x.step(0, 0, 2, 0, LOWEST), REFUSED);
        d.due("the next call", d.x.step(0, 0, 2, 0, 1), 1);
    }

    static void p26NotSoManyTrees() {
        Desk d = new Desk(PAIRS, "aa");
        d.due("1", d.x.step(0, 0, 2, 1, 0), NONE).due("15", d.x.step(0, 0, 2, 15, 0), NONE);
        d.due("no trees", d.x.step(1, 0, 2, 0, 0), NONE);
        d.due("n -1 ahead", d.x.step(0, 0, 2, 1, -1), REFUSED).due("n -1 ahead", d.x.step(1, 0, 2, 0, -1), REFUSED);
        for (int k : WRONG_PLACES) {
            d.due("k " + k, d.x.step(0, 0, 2, k, 0), REFUSED).due("k " + k, d.x.step(1, 0, 2, k, 99), REFUSED);
        }
    }

    static void p26TheLongestTree() {
        Desk d = new Desk(Grammars.bigRing(), "a");
        d.due("rule 0 again", d.x.step(0, 0, 1, 15, 180), 0).due("the letter", d.x.step(0, 0, 1, 15, 191), 12);
        d.due("behind it", d.x.step(0, 0, 1, 15, 192), NONE);
    }

    static void p26TheRuleOf39() {
        Desk d = new Desk("rule B=b;".repeat(39) + "rule A=a;", "a");
        d.due("39", d.x.step(0, 0, 1, 0, 0), 39);
    }

    // ---- 27 bounds ----

    static void p27NoLetters() {
        Desk d = new Desk(PAIRS, "");
        for (int what = 0; what < 3; what++) {
            d.due("none", d.x.bounds(0, 0, what), NONE).due("15", d.x.bounds(15, 0, what), NONE);
        }
        d.due("k 16", d.x.bounds(16, 0, 0), REFUSED).due("n -1", d.x.bounds(0, -1, 0), REFUSED);
        d.due("what 3", d.x.bounds(0, 0, 3), REFUSED);
        d.say("a");
        d.due("with one", d.x.bounds(0, 0, 2), 1);
    }

    static void p27NoRules() {
        Desk d = new Desk("", "aa");
        d.due("none", d.x.bounds(0, 0, 0), NONE).due("k -1", d.x.bounds(-1, 0, 0), REFUSED);
        d.due("n -1", d.x.bounds(0, -1, 0), REFUSED).due("what -1", d.x.bounds(0, 0, -1), REFUSED);
        d.grammar(PAIRS);
        d.due("with rules", d.x.bounds(0, 0, 2), 2);
    }

    static void p27NotSoMany() {
        Desk d = new Desk(PAIRS, "aaa");
        d.due("the last tree", d.x.bounds(1, 0, 1), 2).due("not so many trees", d.x.bounds(2, 0, 1), NONE);
        d.due("the last step", d.x.bounds(1, 4, 0), 2).due("not so many steps", d.x.bounds(1, 5, 0), NONE);
        d.due("highest", d.x.bounds(1, HIGHEST, 0), NONE).due("15", d.x.bounds(15, 0, 0), NONE);
        d.say("aab");
        d.due("no trees", d.x.bounds(0, 0, 0), NONE);
    }

    static void p27KAndNAndWhat() {
        Desk d = new Desk(PAIRS, "aa");
        for (int k : WRONG_PLACES) {
            d.due("k " + k, d.x.bounds(k, 0, 0), REFUSED).due("k, n", d.x.bounds(k, 99, 0), REFUSED);
        }
        d.due("n -1", d.x.bounds(0, -1, 0), REFUSED).due("lowest", d.x.bounds(0, LOWEST, 0), REFUSED);
        d.due("n -1, not so many trees", d.x.bounds(1, -1, 0), REFUSED);
        for (int what : new int[] {-1, 3, LOWEST, HIGHEST}) {
            d.due("what " + what, d.x.bounds(0, 0, what), REFUSED).due("not so many", d.x.bounds(1, 0, what), REFUSED);
        }
    }

    static void p27MOfOnePart() {
        Desk d = new Desk("rule A=B;rule B=ab;".replace("ab", "a b"), "ab");
        d.due("one part", d.x.bounds(0, 0, 1), NONE).due("its begin", d.x.bounds(0, 0, 0), 0).due("end", d.x.bounds(0, 0, 2), 2);
        d.due("two letters", d.x.bounds(0, 1, 1), 1).due("end", d.x.bounds(0, 1, 2), 2);
        d.grammar("rule A=a A;rule A=b;");
        d.due("a letter first", d.x.bounds(0, 0, 1), 1).due("a letter alone", d.x.bounds(0, 1, 1), NONE);
        d.due("begins", d.x.bounds(0, 1, 0), 1).due("ends", d.x.bounds(0, 1, 2), 2);
    }

    static void p27OfStartOverTheWhole() {
        Desk d = new Desk("rule L=AL;rule L=a;rule A=a;", "aaaaaaaa");
        d.due("all of it", d.x.bounds(0, 0, 2), 8).due("m", d.x.bounds(0, 0, 1), 1).due("the last", d.x.bounds(0, 14, 0), 7);
        d.due("its end", d.x.bounds(0, 14, 2), 8).due("behind it", d.x.bounds(0, 15, 0), NONE);
        d.x.drops(0, 1);
        d.due("no trees, START is L still", d.x.bounds(0, 0, 0), NONE);
    }

    // ---- 28 tell ----

    static void p28LabelsAndSpans() {
        Edges.item((x, label, i, j) -> x.tell(label, i, j, 0));
    }

    static void p28RefusedAndOutStays() {
        Desk d = new Desk(PAIRS, "aab");
        for (int told = 0; told < 2; told++) {
            String before = d.out();
            d.due("not so many", d.x.tell(0, 0, 2, 1), NONE).due("15", d.x.tell(0, 0, 2, 15), NONE);
            d.due("no trees", d.x.tell(0, 0, 3, 0), NONE).due("no rules of it", d.x.tell(11, 0, 3, 0), NONE);
            for (int k : WRONG_PLACES) {
                d.due("k " + k, d.x.tell(0, 0, 2, k), REFUSED).due("k " + k, d.x.tell(0, 0, 3, k), REFUSED);
            }
            d.due("label 12", d.x.tell(12, 0, 1, 0), REFUSED).due("span", d.x.tell(0, 0, 4, 0), REFUSED);
            d.due("OUT stays", d.out(), before).due("its length", d.x.count(8), before.length());
            d.due("the next call", d.x.tell(0, 0, 2, 0), 15);
        }
        d.due("OUT", d.out(), "(A (A a) (A a))");
    }

    static void p28Forms() {
        Desk d = new Desk("rule A=a;rule B=a z;rule C=A;rule D=a K;rule E=A z;rule F=A K;rule K=z;rule L=L;rule L=a;", "az");
        String[] one = {"(A a)", null, "(C (A a))", null, null, null, null, null, null, null, null, "(L a)"};
        String[] two = {null, "(B a z)", null, "(D a (K z))", "(E (A a) z)", "(F (A a) (K z))"};
        for (int label = 0; label < 12; label++) {
            if (one[label] != null) {
                d.due("one letter", d.tree(label, 0, 1, 0), one[label]);
            }
            if (label < two.length && two[label] != null) {
                d.due("two letters", d.tree(label, 0, 2, 0), two[label]);
            }
        }
        d.due("the last letter", d.tree(10, 1, 2, 0), "(K z)");
        d.due("a ring", d.tree(11, 0, 1, 2), "(L (L (L a)))");
    }

    static void p28TheLongestText() {
        Desk d = new Desk(Grammars.bigRing(), "aaaaaaaa");
        // Brackets and a label each, a blank each but the first, and a blank and a letter for each of eight.
        d.due("180 steps", d.x.tell(0, 0, 8, 15), 180 * 3 + 179 + 16).due("the last", d.x.octet(734), ')');
        d.due("behind it", d.x.octet(735), NONE).due("the first", d.x.octet(0), '(');
        d.due("15 times round", d.x.tell(0, 0, 1, 15), 192 * 3 + 191 + 2).due("the last", d.x.octet(768), ')');
        d.due("behind it", d.x.octet(769), NONE);
    }

    // ---- 29 octet ----

    static void p29EmptyAheadOfAny() {
        Desk d = new Desk();
        d.due("0", d.x.octet(0), NONE).due("-1", d.x.octet(-1), NONE).due("lowest", d.x.octet(LOWEST), NONE);
        d.due("highest", d.x.octet(HIGHEST), NONE);
        d.grammar(PAIRS);
        d.say("b");
        d.due("refused", d.x.tell(0, 0, 1, 0), NONE).due("still empty", d.x.octet(0), NONE);
    }

    static void p29FirstAndLast() {
        Desk d = new Desk(PAIRS, "a");
        d.x.tell(0, 0, 1, 0);
        d.due("-1", d.x.octet(-1), NONE).due("0", d.x.octet(0), '(').due("4", d.x.octet(4), ')').due("5", d.x.octet(5), NONE);
        d.due("lowest", d.x.octet(LOWEST), NONE).due("highest", d.x.octet(HIGHEST), NONE).due("1999", d.x.octet(1999), NONE);
        d.due("asked again", d.x.octet(0), '(');
    }

    static void p29AShorterOneInItsPlace() {
        Desk d = new Desk(PAIRS, "aa");
        d.due("15", d.x.tell(0, 0, 2, 0), 15).due("the last", d.x.octet(14), ')').due("shorter", d.x.tell(0, 0, 1, 0), 5);
        d.due("its last", d.x.octet(4), ')').due("nothing behind", d.x.octet(5), NONE).due("nor there", d.x.octet(14), NONE);
    }

    static void p29WhateverCameSince() {
        Desk d = new Desk(PAIRS, "aa");
        d.x.tell(0, 0, 2, 0);
        String told = "(A (A a) (A a))";
        d.grammar("rule B=?");
        d.due("a faulty text", d.out(), told);
        d.grammar("rule B=b;");
        d.due("a new text", d.out(), told);
        d.say("bb?");
        d.due("a faulty sentence", d.out(), told);
        d.say("");
        d.due("a new sentence", d.out(), told);
        d.x.drops(0, 1);
        d.x.prices(0, 9);
        d.x.elements(0, 0);
        d.due("other costs", d.out(), told).due("refused", d.x.tell(1, 0, 1, 0), REFUSED).due("stays", d.out(), told);
    }

    // ---- 31 alike ----

    static void p31LabelsAndSpans() {
        Edges.item((x, label, i, j) -> x.alike(label, i, j, 0, 0));
        Edges.item((x, label, i, j) -> x.alike(label, i, j, 15, 15));
    }

    static void p31KAndL() {
        Desk d = trees(16);
        for (int k : WRONG_PLACES) {
            d.due("k " + k, d.x.alike(0, 0, 1, k, 0), REFUSED).due("l " + k, d.x.alike(0, 0, 1, 0, k), REFUSED);
        }
        d.due("15 and 0", d.x.alike(0, 0, 1, 15, 0), 0).due("15 and 15", d.x.alike(0, 0, 1, 15, 15), 1);
    }

    static void p31NotSoMany() {
        Desk d = trees(15);
        d.due("k", d.x.alike(0, 0, 1, 15, 0), NONE).due("l", d.x.alike(0, 0, 1, 0, 15), NONE);
        d.due("both", d.x.alike(0, 0, 1, 15, 15), NONE).due("14", d.x.alike(0, 0, 1, 14, 14), 1);
        d.due("k 16 ahead", d.x.alike(0, 0, 1, 16, 15), REFUSED).due("l 16 ahead", d.x.alike(0, 0, 1, 15, 16), REFUSED);
        d.due("no trees", d.x.alike(1, 0, 1, 0, 0), NONE).due("l -1 ahead", d.x.alike(1, 0, 1, 0, -1), REFUSED);
    }

    static void p31NoneAndAll() {
        Desk d = new Desk(PAIRS, "aaaa");
        d.due("all seven", d.x.alike(0, 0, 4, 3, 3), 7).due("another m first", d.x.alike(0, 0, 4, 0, 4), 0);
        // 1 and then 2: (a (a (a a))) and (a ((a a) a)) have the first two steps alike.
        d.due("two", d.x.alike(0, 0, 4, 0, 1), 2).due("either way", d.x.alike(0, 0, 4, 1, 0), 2);
    }

    static void p31OneIsTheBeginOfTheOther() {
        Desk d = new Desk("rule A=A;rule A=a;", "a");
        // 1, 01, 001: the shorter ones end where the longer ones go on with rule 0.
        d.due("0 and 1", d.x.alike(0, 0, 1, 0, 1), 0).due("1 and 2", d.x.alike(0, 0, 1, 1, 2), 1);
        d.due("14 and 15", d.x.alike(0, 0, 1, 14, 15), 14).due("15 and 14", d.x.alike(0, 0, 1, 15, 14), 14);
    }

    /** Like rules over other spans are not alike. */
    static void p31RuleSpanAndM() {
        Desk d = new Desk("rule A=BB;rule B=b;rule B=BB;", "bbb");
        d.due("m 1 and m 2", d.x.alike(0, 0, 3, 0, 1), 0);
        d.grammar("rule A=B;rule A=B;rule B=b;");
        d.say("b");
        d.due("another rule", d.x.alike(0, 0, 1, 0, 1), 0);
    }
}
