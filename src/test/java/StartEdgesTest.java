/** Promises 32 to 37: what is told of START and of the grammar, at its boundaries. */
public final class StartEdgesTest {
    private static final int NONE = Edges.NONE;
    private static final int REFUSED = Edges.REFUSED;
    private static final int LOWEST = Edges.LOWEST;
    private static final int HIGHEST = Edges.HIGHEST;
    private static final String PAIRS = "rule A=AA cost 2;rule A=a;";

    public static void main(String[] args) {
        Edges.run(StartEdgesTest.class, "p32", "p33", "p34", "p35", "p36", "p37");
    }

    /** A rule of A for each letter a .. z, the k-th of cost k and 1, and pairs of cost 1. */
    private static String alphabet() {
        StringBuilder text = new StringBuilder("rule A=AA;");
        for (char letter = 'a'; letter <= 'z'; letter++) {
            text.append("rule A=").append(letter).append(" cost ").append(letter - 'a' + 1).append(';');
        }
        return text.toString();
    }

    // ---- 32 without ----

    static void p32NoSuchRule() {
        Desk d = new Desk(PAIRS, "aa");
        String before = d.picture();
        d.due("-1", d.x.without(-1), REFUSED).due("2", d.x.without(2), REFUSED).due("40", d.x.without(40), REFUSED);
        d.due("lowest", d.x.without(LOWEST), REFUSED).due("highest", d.x.without(HIGHEST), REFUSED);
        d.due("stays", d.picture(), before).due("the last one", d.x.without(1), NONE);
    }

    static void p32NoLettersNoTree() {
        Desk d = new Desk(PAIRS, "");
        d.due("no letters", d.x.without(0), NONE).due("no such rule", d.x.without(2), REFUSED);
        d.say("ab");
        d.due("no tree", d.x.without(0), NONE).due("no such rule", d.x.without(2), REFUSED);
        d.grammar("");
        d.due("no rules", d.x.without(0), REFUSED);
    }

    static void p32TheRuleIsNotOutThen() {
        Desk d = new Desk("rule A=a;rule A=a cost 9;rule A=B;rule B=a cost 5;", "a");
        String before = d.picture();
        int[] want = {6, 1, 1, 1};
        for (int rule = 0; rule < 4; rule++) {
            d.due("rule " + rule, d.x.without(rule), want[rule]);
        }
        d.due("stays", d.picture(), before).due("least", d.x.least(0, 0, 1), 1).due("none is OUT", d.x.count(9), 4);
    }

    static void p32OfOneThatIsOutAlready() {
        Desk d = new Desk("rule A=a;rule A=a cost 9;rule A=a cost 20;", "a");
        d.x.drops(0, 1);
        d.due("itself", d.x.without(0), 9).due("1, too", d.x.without(1), 20).due("still OUT", d.x.rule(0, 5), 1);
        d.x.drops(1, 1);
        d.due("the last one", d.x.without(2), NONE);
    }

    static void p32TheLastOfForty() {
        Desk d = new Desk("rule A=a cost 2;".repeat(39) + "rule A=a;", "a");
        d.due("39", d.x.without(39), 2).due("38", d.x.without(38), 1).due("40", d.x.without(40), REFUSED);
    }

    // ---- 33 heads ----

    static void p33NoLettersNoRules() {
        Desk d = new Desk();
        d.due("new", d.x.heads(), 0);
        d.grammar(PAIRS);
        d.due("no letters", d.x.heads(), 0);
        d.say("a");
        d.due("one", d.x.heads(), 2);
        d.grammar("");
        d.due("no rules", d.x.heads(), 0);
    }

    static void p33OneRule() {
        Desk d = new Desk("rule L=a;", "ab");
        d.due("one rule", d.x.heads(), 2);
        d.x.drops(0, 1);
        d.due("it is OUT", d.x.heads(), 0);
    }

    static void p33FromOneToAll() {
        Desk d = new Desk(PAIRS, "aaaaaaaa");
        d.due("1 .. 8", d.x.heads(), 510);
        d.grammar("rule A=BB;rule B=CC;rule C=DD;rule D=a;");
        d.due("8 alone", d.x.heads(), 256);
        d.grammar("rule D=a;rule A=DD;");
        d.due("1 alone", d.x.heads(), 2);
        d.say("baaaaaaa");
        d.due("not from the second on", d.x.heads(), 0);
    }

    // ---- 34 mends ----

    static void p34NoLettersNoRules() {
        Desk d = new Desk(PAIRS, "");
        d.due("no letters", d.x.mends(), 0);
        d.say("b");
        d.due("b to a", d.x.mends(), 1);
        d.grammar("");
        d.due("no rules", d.x.mends(), 0);
    }

    static void p34ToAnotherOne() {
        Desk d = new Desk(alphabet(), "abcdwxyz");
        d.due("25 for each of eight", d.x.mends(), 200);
        d.say("z");
        d.due("25", d.x.mends(), 25);
        d.grammar("rule A=z;");
        d.due("not to itself", d.x.mends(), 0).due("but it has a tree", d.x.can(0, 0, 1), 1);
        d.say("a");
        d.due("a to z", d.x.mends(), 1);
    }

    static void p34OneLetterAlone() {
        Desk d = new Desk(PAIRS, "baaaaaaa");
        d.due("the first", d.x.mends(), 1);
        d.say("aaaaaaab");
        d.due("the last", d.x.mends(), 1);
        d.say("baaaaaab");
        d.due("two are too many", d.x.mends(), 0);
    }

    static void p34OverAllOfIt() {
        Desk d = new Desk("rule A=a b;rule B=b;", "ab");
        d.due("none by which there are still trees", d.x.mends(), 0);
        d.say("bb");
        d.due("the first", d.x.mends(), 1);
        d.say("aab");
        d.due("too long", d.x.mends(), 0);
        d.say("a");
        d.due("too short", d.x.mends(), 0);
    }

    /** Each letter of a rule must be there, but for the one that is changed. */
    static void p34TheOtherLetterMustBeThere() {
        Desk d = new Desk("rule A=x a;", "ya");
        d.due("y to x", d.x.mends(), 1);
        d.say("xb");
        d.due("b to a", d.x.mends(), 1);
        d.say("yb");
        d.due("two are wrong", d.x.mends(), 0);
        d.say("xa");
        d.due("none is wrong", d.x.mends(), 0);
        d.say("xaa");
        d.due("too long", d.x.mends(), 0);
        d.say("aa");
        d.due("a to x", d.x.mends(), 1);
    }

    /** A rule of two parts is over no single letter. */
    static void p34OneLetterHasNoPairs() {
        Desk d = new Desk("rule A=a A;rule A=b;rule A=A c;", "b");
        d.due("b to a, to c", d.x.mends(), 0).due("b", d.x.can(0, 0, 1), 1);
        d.say("a");
        d.due("a to b", d.x.mends(), 1);
    }

    static void p34TheSentenceStays() {
        Desk d = new Desk(PAIRS, "aba");
        d.due("one", d.x.mends(), 1).due("no tree yet", d.x.can(0, 0, 3), 0).due("heads", d.x.heads(), 2);
        d.due("asked again", d.x.mends(), 1);
    }

    // ---- 35 mend ----

    private static void due(Desk d, int place, int letter, int cost) {
        d.due("place", d.x.mend(0), place).due("letter", d.x.mend(1), letter).due("cost", d.x.mend(2), cost);
    }

    static void p35NoSuchWhat() {
        Desk d = new Desk(PAIRS, "");
        for (String text : new String[] {"", "aa", "ab"}) {
            d.say(text);
            d.due("-1", d.x.mend(-1), REFUSED).due("3", d.x.mend(3), REFUSED);
            d.due("lowest", d.x.mend(LOWEST), REFUSED).due("highest", d.x.mend(HIGHEST), REFUSED);
        }
        due(d, 1, 0, 4);
    }

    static void p35ThereIsNone() {
        Desk d = new Desk();
        due(d, NONE, NONE, NONE);
        d.grammar(PAIRS);
        due(d, NONE, NONE, NONE);
        d.say("bb");
        due(d, NONE, NONE, NONE);
        d.say("aa");
        due(d, NONE, NONE, NONE);
        d.say("ba");
        due(d, 0, 0, 4);
        d.grammar("");
        due(d, NONE, NONE, NONE);
    }

    static void p35OfLikeOnesTheFirstPlaceThenLetter() {
        Desk d = new Desk("rule A=AA;rule A=c cost 3;rule A=b cost 3;rule A=z cost 5;rule A=d cost 5;", "zd");
        due(d, 0, 1, 9);
        d.say("cd");
        due(d, 1, 1, 7);
        d.say("zc");
        due(d, 0, 1, 7);
        d.say("bb");
        due(d, 0, 2, 7);
        d.x.prices(1, 4);
        due(d, 0, 2, 8);
        d.x.prices(1, 5);
        due(d, 0, 2, 9);
        d.x.drops(1, 1);
        due(d, 0, 3, 9);
    }

    static void p35FirstAndLastPlaceAndLetter() {
        Desk d = new Desk("rule A=AA;rule A=y;rule A=z;rule A=a cost 2;", "yyyyyyyb");
        due(d, 7, 24, 15);
        d.say("byyyyyyy");
        due(d, 0, 24, 15);
        d.x.drops(1, 1);
        d.say("zzzzzzzy");
        due(d, 7, 25, 15);
        d.say("bzzzzzzz");
        d.x.prices(3, 1);
        due(d, 0, 0, 15);
    }

    /** The one by which it is least, even where the sentence as it is would cost less, or has no tree. */
    static void p35OfAnotherOneAlone() {
        Desk d = new Desk("rule A=a;rule A=b cost 99;", "a");
        due(d, 0, 1, 99);
        d.say("b");
        due(d, 0, 0, 1);
    }

    /** What the other part costs is counted, be it ahead of the change or behind it, a letter or a label. */
    static void p35TheOtherPart() {
        Desk d = new Desk("rule A=a B;rule B=b cost 5;", "xb");
        due(d, 0, 0, 6);
        d.say("ax");
        due(d, 1, 1, 6);
        d.grammar("rule A=B a;rule B=b cost 5;");
        d.say("bx");
        due(d, 1, 0, 6);
        d.say("xa");
        due(d, 0, 1, 6);
        d.grammar("rule A=BC cost 3;rule B=b cost 5;rule C=c cost 7;");
        d.say("bx");
        due(d, 1, 2, 15);
        d.say("xc");
        due(d, 0, 1, 15);
        d.grammar("rule A=b D;rule D=C c cost 2;rule C=c d cost 4;");
        d.say("bcxc");
        due(d, 2, 3, 7);
        d.say("bcdx");
        due(d, 3, 2, 7);
        d.say("xcdc");
        due(d, 0, 1, 7);
    }

    static void p35AnewAfterEachChange() {
        Desk d = new Desk("rule A=a;rule A=b cost 2;", "x");
        due(d, 0, 0, 1);
        d.x.prices(0, 3);
        due(d, 0, 1, 2);
        d.x.drops(1, 1);
        due(d, 0, 0, 3);
        d.say("a");
        due(d, NONE, NONE, NONE);
        d.x.drops(1, 0);
        due(d, 0, 1, 2);
        d.grammar("rule A=c;");
        due(d, 0, 2, 1);
        d.say("");
        due(d, NONE, NONE, NONE);
    }

    static void p35OfLikeOnesOverTheWholeAlphabet() {
        Desk d = new Desk(alphabet(), "aaaaaaaa");
        // Seven pairs, seven a, and a b of 2.
        due(d, 0, 1, 7 + 7 + 2);
        d.say("zzzzzzzz");
        due(d, 0, 0, 7 + 7 * 26 + 1);
    }

    // ---- 36 rings ----

    static void p36NoneAndAll() {
        Desk d = new Desk();
        d.due("no rules", d.x.rings(), 0);
        d.grammar(Grammars.bigRing());
        d.due("all twelve", d.x.rings(), 4095);
        d.x.drops(11, 1);
        d.due("open", d.x.rings(), 0);
        d.x.drops(11, 0);
        d.due("closed", d.x.rings(), 4095);
        d.grammar("rule L=L;");
        d.due("of one", d.x.rings(), 2048);
    }

    static void p36JustOnePartALabel() {
        Desk d = new Desk("rule A=AA;rule B=B b;rule C=b C;rule D=d;rule E=EE;", "");
        d.due("two parts, a letter", d.x.rings(), 0);
        d.grammar("rule A=B;rule B=A A;rule B=AC;");
        d.due("half a ring", d.x.rings(), 0);
        d.grammar("rule A=B;rule B=A;");
        d.due("a ring", d.x.rings(), 3);
    }

    static void p36OnItNotBesideIt() {
        Desk d = new Desk("rule A=B;rule B=C;rule C=B;rule C=D;rule D=d;rule E=E;rule E=F;rule F=G;", "");
        d.due("B, C, E", d.x.rings(), 2 + 4 + 16);
        d.grammar("rule A=B;rule B=C;rule C=A;rule C=D;rule D=E;rule E=C;");
        d.due("two rings with C", d.x.rings(), 31);
    }

    static void p36WithoutLettersOrTrees() {
        Desk d = new Desk("rule A=B;rule B=A;", "");
        d.due("no letters", d.x.rings(), 3).due("not alive", d.x.alive(), 0);
    }

    // ---- 37 alive ----

    static void p37None() {
        Desk d = new Desk();
        d.due("no rules", d.x.alive(), 0);
        d.grammar("rule A=A;");
        d.due("a ring alone", d.x.alive(), 0);
        d.grammar("rule A=B;rule B=A;rule C=c;");
        d.due("not of START", d.x.alive(), 0);
        d.grammar("rule A=a;");
        d.due("one", d.x.alive(), 1);
        d.x.drops(0, 1);
        d.due("OUT", d.x.alive(), 0);
    }

    static void p37AllForty() {
        Desk d = new Desk("rule A=a;".repeat(40), "");
        d.due("40", d.x.alive(), (1L << 40) - 1);
        d.x.drops(39, 1);
        d.due("without the last", d.x.alive(), (1L << 39) - 1);
        d.x.drops(0, 1);
        d.due("START stays A", d.x.alive(), (1L << 39) - 2);
    }

    /** Eleven times twice: 2048 letters, far more than eight. */
    static void p37HoweverLong() {
        StringBuilder text = new StringBuilder();
        for (char label = 'A'; label < 'L'; label++) {
            text.append("rule ").append(label).append('=').append((char) (label + 1)).append((char) (label + 1)).append(';');
        }
        Desk d = new Desk(text + "rule L=a;rule L=A;", "");
        d.due("all", d.x.alive(), (1L << 13) - 1);
        d.x.drops(11, 1);
        d.due("no letter", d.x.alive(), 0);
    }

    static void p37BothPartsMustHaveTrees() {
        Desk d = new Desk("rule A=BC;rule B=b;rule A=b;rule A=CB;", "");
        d.due("C has none", d.x.alive(), 4);
        d.grammar("rule A=BC;rule B=b;rule C=c;rule D=A;");
        d.due("D is not in one of START", d.x.alive(), 7);
    }

    static void p37WhateverTheSentence() {
        Desk d = new Desk("rule A=a;rule A=z;", "b");
        d.due("no trees here", d.x.can(0, 0, 1), 0).due("alive", d.x.alive(), 3);
    }
}
