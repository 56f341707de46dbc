/** Promises 1 to 12: the tape, the grammar, the sentence, the rules and the table, at their boundaries. */
public final class TextEdgesTest {
    private static final int NONE = Edges.NONE;
    private static final int FAULTY = Edges.FAULTY;
    private static final int REFUSED = Edges.REFUSED;
    private static final int LOWEST = Edges.LOWEST;
    private static final int HIGHEST = Edges.HIGHEST;
    private static final String MODULO_3 =
        "table 3 zero 0 one 1 plus 0 1 2 1 2 0 2 0 1 times 0 0 0 0 1 2 0 2 1;";
    private static final String THREE = MODULO_3 + "rule A = A A cost 2;rule A = a as 2;rule B = b cost 99;";
    private static final int BLANKS = 0x20202020;

    public static void main(String[] args) {
        Edges.run(TextEdgesTest.class, "p01", "p02", "p03", "p04", "p05", "p06", "p07", "p08", "p09", "p10", "p11", "p12");
    }

    private static void fill(Desk d, int feeds) {
        for (int n = 1; n <= feeds; n++) {
            d.due("feed " + n, d.x.feed(BLANKS, BLANKS, BLANKS, BLANKS, BLANKS), 20 * n);
        }
    }

    private static int feedText(Desk d, String twenty) {
        int[] n = Desk.numbers(twenty, 0);
        return d.x.feed(n[0], n[1], n[2], n[3], n[4]);
    }

    /** A grammar, a rule that is OUT, another cost, another E, a sentence and a text in OUT. */
    private static Desk used() {
        Desk d = new Desk(THREE, "aab");
        d.x.drops(2, 1);
        d.x.prices(1, 7);
        d.x.elements(0, 2);
        d.x.tell(0, 0, 2, 0);
        return d;
    }

    // ---- 1 A new object ----

    static void p01NoRules() {
        Desk d = new Desk();
        d.due("RULES", d.x.count(0), 0).due("START", d.x.count(2), NONE).due("not OUT", d.x.count(9), 0);
        d.due("rule 0", d.x.rule(0, 0), REFUSED).due("drops", d.x.drops(0, 1), REFUSED);
        d.due("prices", d.x.prices(0, 1), REFUSED).due("elements", d.x.elements(0, 0), REFUSED);
        d.due("without", d.x.without(0), REFUSED).due("rings", d.x.rings(), 0).due("alive", d.x.alive(), 0);
        d.due("heads", d.x.heads(), 0).due("bounds", d.x.bounds(0, 0, 0), NONE);
    }

    static void p01NoLetters() {
        Desk d = new Desk();
        d.due("LETTERS", d.x.count(1), 0).due("ITEMS", d.x.count(6), 0).due("settled", d.x.settled(0, 0), NONE);
        d.due("can", d.x.can(0, 0, 1), REFUSED).due("0 .. 0", d.x.can(0, 0, 0), REFUSED);
        d.due("rounds", d.x.rounds(), 1).due("laws", d.x.laws(), 511);
        d.due("mends", d.x.mends(), 0).due("mend", d.x.mend(0), NONE);
        d.grammar("rule A=a;");
        d.due("with a rule still none", d.x.can(0, 0, 1), REFUSED).due("ITEMS", d.x.count(6), 0);
    }

    static void p01TapeAndOutAreEmpty() {
        Desk d = new Desk();
        d.due("TAPE", d.x.count(7), 0).due("OUT", d.x.count(8), 0).due("octet", d.x.octet(0), NONE);
        d.due("end 0", d.x.end(0), 0).due("end 1", d.x.end(1), NONE);
        d.due("an empty text", d.x.grammar(), 0).due("an empty sentence", d.x.say(), 0);
    }

    static void p01AnotherObjectIsNew() {
        Desk one = used();
        String before = one.picture();
        Desk other = new Desk();
        other.due("RULES", other.x.count(0), 0).due("LETTERS", other.x.count(1), 0).due("OUT", other.x.count(8), 0);
        other.due("N", other.x.count(3), 2);
        other.grammar("rule B=b;");
        other.say("b");
        other.x.tell(1, 0, 1, 0);
        one.due("the first one stays", one.picture(), before);
    }

    // ---- 2 feed ----

    static void p02TwentyBytesEach() {
        Desk d = new Desk();
        fill(d, 2);
        d.due("as many as it has", d.x.count(7), 40);
        d.x.end(1);
        d.due("behind the one that is left", d.x.feed(0, 0, 0, 0, 0), 21);
    }

    static void p02Full() {
        Desk d = new Desk();
        fill(d, 50);
        d.due("1000", d.x.count(7), 1000);
        d.due("more than 1000", d.x.feed(BLANKS, BLANKS, BLANKS, BLANKS, BLANKS), NONE);
        d.due("none came", d.x.count(7), 1000).due("again", d.x.feed(0, 0, 0, 0, 0), NONE);
        d.due("the text stays", d.x.grammar(), 0).due("the next", d.x.feed(0, 0, 0, 0, 0), 20);
    }

    static void p02JustFullAndOneMore() {
        Desk d = new Desk();
        fill(d, 50);
        d.due("981", d.x.end(981), 981).due("1001", d.x.feed(0, 0, 0, 0, 0), NONE).due("none came", d.x.count(7), 981);
        d.due("980", d.x.end(980), 980).due("1000", d.x.feed(BLANKS, BLANKS, BLANKS, BLANKS, BLANKS), 1000);
        d.due("the refused bytes are not there", d.x.grammar(), 0);
    }

    static void p02RefusedBytesAreNotThere() {
        Desk d = new Desk();
        fill(d, 49);
        d.due("the last twenty", feedText(d, "rule A=b;           "), 1000);
        d.due("refused", feedText(d, "rule C=c;rule C=c;  "), NONE).due("999", d.x.end(999), 999);
        d.due("refused", feedText(d, "rule C=c;rule C=c;  "), NONE);
        d.due("one rule", d.x.grammar(), 1).due("A", d.x.rule(0, 0), 0).due("b", d.x.rule(0, 1), 101);
        d.due("the next call", feedText(d, "rule C=c;rule C=c;  "), 20).due("two", d.x.grammar(), 2);
    }

    static void p02TheHighestFirst() {
        Desk d = new Desk();
        d.due("all five", d.x.feed(0x72756c65, 0x204b3d6c, 0x4c636f73, 0x74203837, 0x61733b20), 20);
        d.x.end(16);
        d.due("rule K=lL cost 87", d.x.feed(0x3b202020, BLANKS, BLANKS, BLANKS, BLANKS), 36);
        d.due("one", d.x.grammar(), 1).due("K", d.x.rule(0, 0), 10).due("l", d.x.rule(0, 1), 111);
        d.due("L", d.x.rule(0, 2), 11).due("87", d.x.rule(0, 3), 87);
    }

    static void p02BytesAbove127() {
        Desk d = new Desk();
        d.due("225 is not a", d.x.feed(0xe1000000, 0, 0, 0, 0), 20).due("one", d.x.end(1), 1).due("say", d.x.say(), FAULTY);
        d.due("all bits", d.x.feed(-1, -1, -1, -1, -1), 20).due("say", d.x.say(), FAULTY);
        d.due("the lowest and highest", d.x.feed(LOWEST, HIGHEST, LOWEST, HIGHEST, 0), 20);
        d.due("a byte of 128", d.x.grammar(), FAULTY).due("at 0", d.x.fault(1), 0);
        d.due("a byte of 160", d.x.feed(0xa0a0a0a0, 0, 0, 0, 0), 20).due("no blank", d.x.grammar(), FAULTY);
    }

    // ---- 3 end ----

    static void p03AllOrNone() {
        Desk d = new Desk();
        d.due("0 of 0", d.x.end(0), 0).due("1 of 0", d.x.end(1), NONE);
        fill(d, 1);
        d.due("20 of 20", d.x.end(20), 20).due("still 20", d.x.count(7), 20);
        d.due("21 of 20", d.x.end(21), NONE).due("nothing happens", d.x.count(7), 20);
        d.due("19", d.x.end(19), 19).due("20 of 19", d.x.end(20), NONE).due("19 stays", d.x.count(7), 19);
        d.due("none", d.x.end(0), 0).due("empty", d.x.count(7), 0).due("1 of 0", d.x.end(1), NONE);
    }

    static void p03Below0() {
        Desk d = new Desk();
        d.due("of none", d.x.end(-1), NONE);
        fill(d, 1);
        d.due("-1", d.x.end(-1), NONE).due("lowest", d.x.end(LOWEST), NONE).due("highest", d.x.end(HIGHEST), NONE);
        d.due("nothing happens", d.x.count(7), 20).due("the next call", d.x.end(3), 3);
    }

    static void p03FullTape() {
        Desk d = new Desk();
        fill(d, 50);
        d.due("1001", d.x.end(1001), NONE).due("1000", d.x.end(1000), 1000).due("999", d.x.end(999), 999);
    }

    static void p03ItsFirstBytes() {
        Desk d = new Desk();
        feedText(d, "abcdefghijklmnopqrst");
        d.due("three", d.x.end(3), 3).due("refused", d.x.end(4), NONE);
        d.due("what comes is behind them", feedText(d, "xyz                 "), 23).due("six", d.x.end(6), 6);
        d.due("abcxyz", d.x.say(), 6);
        d.grammar("rule A=a;rule B=b;rule C=c;rule D=x;rule E=y;rule F=z;");
        for (int at = 0; at < 6; at++) {
            d.due("letter " + at, d.x.can(at, at, at + 1), 1);
        }
    }

    /** What stood behind the end is not there, also where it would go on with a word or a number. */
    static void p03CutInAToken() {
        Desk d = new Desk();
        String text = "rule A=a cost 55;";
        feedText(d, text);
        d.due("cost 5", d.x.end(15), 15).due("no semicolon", d.x.grammar(), FAULTY).due("at the end", d.x.fault(1), 15);
        feedText(d, text);
        d.due("cost 55", d.x.end(16), 16).due("no semicolon", d.x.grammar(), FAULTY).due("at the end", d.x.fault(1), 16);
        feedText(d, text);
        d.due("cos", d.x.end(12), 12).due("no word", d.x.grammar(), FAULTY).due("at its place", d.x.fault(1), 9);
        feedText(d, text);
        d.due("rul", d.x.end(3), 3).due("no word", d.x.grammar(), FAULTY).due("at its place", d.x.fault(1), 0);
        feedText(d, "rule A=a;rule A=a;;;");
        d.due("one", d.x.end(9), 9).due("one", d.x.grammar(), 1);
    }

    static void p03AllElseStays() {
        Desk d = used();
        String before = d.picture();
        d.due("refused", d.x.end(1), NONE).due("refused", d.x.end(-1), NONE).due("none", d.x.end(0), 0);
        d.due("stays", d.picture(), before);
    }

    // ---- 4 grammar ----

    static void p04EmptyTape() {
        Desk d = used();
        d.due("no rules", d.x.grammar(), 0).due("none", d.x.count(0), 0).due("rule 0 is gone", d.x.rule(0, 0), REFUSED);
        d.due("N", d.x.count(3), 2).due("the sentence stays", d.x.count(1), 3).due("no trees", d.x.can(0, 0, 1), 0);
        d.due("OUT stays", d.out(), "(A (A a) (A a))");
    }

    static void p04InPlaceOfAnother() {
        Desk d = used();
        d.due("one", d.grammar("rule C = b;"), 1).due("one", d.x.count(0), 1).due("rule 1 is gone", d.x.rule(1, 0), REFUSED);
        d.due("its label", d.x.rule(0, 0), 2).due("its cost", d.x.rule(0, 3), 1).due("its E", d.x.rule(0, 4), 1);
        d.due("no A", d.x.can(0, 0, 1), 0).due("C over b", d.x.can(2, 2, 3), 1).due("ITEMS", d.x.count(6), 1);
        d.due("more", d.grammar(Edges.ALL), 13).due("A over aa", d.x.can(0, 0, 2), 1);
    }

    /** A text, another sentence, a rule OUT, a cost, an E: what was asked ahead of it is found anew. */
    static void p04AllIsFoundAnew() {
        String text = "rule A=AB cost 3;rule A=a;rule B=b as 0;rule B=A cost 2;rule C=C;";
        String other = MODULO_3 + "rule B=AB cost 2;rule A=a as 2;rule B=b;rule B=B;rule C=b;";
        Desk warm = new Desk(text, "ab");
        warm.answers();
        warm.grammar(other);
        Desk cold = new Desk(other, "ab");
        warm.due("another text", warm.answers(), cold.answers());
    }

    static void p04NoneIsOut() {
        Desk d = used();
        d.x.drops(0, 1);
        d.x.drops(1, 1);
        d.due("all OUT", d.x.count(9), 0).due("the same text", d.grammar(THREE), 3).due("none is OUT", d.x.count(9), 3);
        d.due("cost as told", d.x.rule(1, 3), 1).due("E as told", d.x.rule(0, 4), 1).due("2", d.x.rule(2, 5), 0);
    }

    static void p04TheSentenceStays() {
        Desk d = new Desk(THREE, "bba");
        d.grammar("rule A=b A;rule A=a;");
        d.due("three", d.x.count(1), 3).due("bba", d.x.can(0, 0, 3), 1).due("ba", d.x.can(0, 1, 3), 1);
    }

    static void p04TheTapeIsEmptyThen() {
        Desk d = new Desk();
        d.due("fine", d.grammar("rule A=a;"), 1).due("empty", d.x.count(7), 0);
        d.due("faulty", d.grammar("rule A=?;"), FAULTY).due("empty", d.x.count(7), 0).due("end 1", d.x.end(1), NONE);
        d.due("what is fed then is first", d.x.feed(BLANKS, BLANKS, BLANKS, BLANKS, BLANKS), 20);
        d.due("no rest of the faulty one", d.x.grammar(), 0);
    }

    static void p04FaultAndAllElseStays() {
        String[] faulty = {"rule C=c;rule C=C C cost 5;rule", "rule C=c cost 100;", "rule C=c;".repeat(41),
            "table 5 zero 4 one 3 plus" + " 1".repeat(25) + " times" + " 2".repeat(25) + ";rule C=c as 4;rule C=c as 5;", "?"};
        int[] numbers = {1, 2, 3, 2, 1};
        for (int at = 0; at < faulty.length; at++) {
            Desk d = used();
            String before = d.picture();
            d.due("faulty", d.grammar(faulty[at]), FAULTY).due("its number", d.x.fault(0), numbers[at]);
            d.due("all else stays", d.picture(), before);
            d.due("rule 2 is OUT", d.x.rule(2, 5), 1).due("cost 7", d.x.rule(1, 3), 7).due("E 2", d.x.rule(0, 4), 2);
            d.due("the next one", d.grammar("rule C=c;"), 1).due("no fault", d.x.fault(0), 0);
        }
    }

    static void p04FaultOnANewObject() {
        Desk d = new Desk();
        d.due("faulty", d.grammar("rule A=a;rule B=b"), FAULTY).due("no rules", d.x.count(0), 0);
        d.due("START", d.x.count(2), NONE).due("N", d.x.count(3), 2).due("alive", d.x.alive(), 0);
    }

    static void p04FullGrammar() {
        StringBuilder text = new StringBuilder();
        for (int rule = 0; rule < 40; rule++) {
            text.append("rule ").append((char) ('A' + rule % 12)).append("=AL cost 99 as 1;");
        }
        Desk d = new Desk();
        d.due("forty", d.grammar(text.toString()), 40).due("39", d.x.rule(39, 0), 39 % 12).due("L", d.x.rule(39, 2), 11);
    }

    // ---- 5 fault ----

    static void p05AheadOfAny() {
        Desk d = new Desk();
        d.due("0", d.x.fault(0), 0).due("1", d.x.fault(1), NONE).due("2", d.x.fault(2), NONE);
        d.due("-1", d.x.fault(-1), NONE);
    }

    static void p05AnotherWhat() {
        Desk d = new Desk();
        for (String text : new String[] {"rule A=?;", ""}) {
            d.grammar(text);
            d.due("-1", d.x.fault(-1), NONE).due("2", d.x.fault(2), NONE).due("3", d.x.fault(3), NONE);
            d.due("lowest", d.x.fault(LOWEST), NONE).due("highest", d.x.fault(HIGHEST), NONE);
        }
    }

    static void p05OfTheLatest() {
        Desk d = new Desk();
        d.grammar("rule A=a cost 0;");
        d.due("2", d.x.fault(0), 2).due("14", d.x.fault(1), 14);
        d.grammar(" ?");
        d.due("1", d.x.fault(0), 1).due("1", d.x.fault(1), 1);
        d.grammar("rule A=a;".repeat(41));
        d.due("3", d.x.fault(0), 3).due("360", d.x.fault(1), 360);
        d.grammar("rule A=a;");
        d.due("without", d.x.fault(0), 0).due("no place", d.x.fault(1), NONE);
    }

    static void p05PlaceOfTheFirstByte() {
        Desk d = new Desk();
        d.grammar("?");
        d.due("at 0", d.x.fault(1), 0);
        d.grammar("rule");
        d.due("at the end", d.x.fault(1), 4);
    }

    static void p05OtherCallsLeaveIt() {
        Desk d = new Desk();
        d.grammar(" rule A=a cost 0;");
        d.due("a sentence refused", d.say("?"), FAULTY).due("say", d.say("a"), 1);
        d.x.feed(0, 0, 0, 0, 0);
        d.x.end(0);
        d.x.can(0, 0, 1);
        d.due("2", d.x.fault(0), 2).due("15", d.x.fault(1), 15).due("asked again", d.x.fault(1), 15);
    }

    // ---- 6 say ----

    static void p06EightAtMost() {
        Desk d = new Desk(Edges.ALL, "");
        for (int length = 0; length <= 8; length++) {
            d.due("so many", d.say("a".repeat(length)), length).due("LETTERS", d.x.count(1), length);
            d.due("ITEMS", d.x.count(6), 12 * length * (length + 1) / 2);
        }
        d.due("nine", d.say("aaaaaaaaa"), FAULTY).due("a thousand", d.say("a".repeat(1000)), FAULTY);
        d.due("the sentence stays", d.x.count(1), 8).due("ITEMS", d.x.count(6), 432);
        d.due("the next one", d.say("aa"), 2).due("LETTERS", d.x.count(1), 2);
    }

    /** Every byte: a .. z and no other, blanks not. */
    static void p06BytesThatAreNone() {
        for (int sign = 0; sign < 256; sign++) {
            boolean letter = sign >= 'a' && sign <= 'z';
            Desk d = new Desk();
            d.due("byte " + sign + " alone", d.say("" + (char) sign), letter ? 1 : FAULTY);
            d.due("last", d.say("abcdefg" + (char) sign), letter ? 8 : FAULTY);
            d.due("first", d.say((char) sign + "b"), letter ? 2 : FAULTY);
        }
    }

    static void p06RefusedAndTheSentenceStays() {
        for (String text : new String[] {"a b", "aB", "aab ", "\naab", "{", "`", "abcdefghi", "aab;", "a" + (char) 0}) {
            Desk d = used();
            String before = d.picture();
            d.due("'" + text + "'", d.say(text), FAULTY).due("three", d.x.count(1), 3);
            d.due("all stays", d.picture(), before).due("the tape is empty", d.x.count(7), 0);
            d.due("the next one", d.say("bb"), 2).due("no A", d.x.can(0, 0, 1), 0);
        }
    }

    static void p06EmptySentence() {
        Desk d = used();
        d.due("none", d.say(""), 0).due("LETTERS", d.x.count(1), 0).due("ITEMS", d.x.count(6), 0);
        d.due("no span", d.x.can(0, 0, 1), REFUSED).due("rules stay", d.x.count(0), 3).due("OUT rule", d.x.rule(2, 5), 1);
        d.due("OUT stays", d.out(), "(A (A a) (A a))");
    }

    static void p06TheTapeIsEmptyThen() {
        Desk d = new Desk();
        d.due("ab", d.say("ab"), 2).due("empty", d.x.count(7), 0).due("none then", d.x.say(), 0);
        d.due("refused", d.say("a?"), FAULTY).due("empty", d.x.count(7), 0).due("end 1", d.x.end(1), NONE);
    }

    static void p06AllIsFoundAnew() {
        String text = "rule A=AB cost 3;rule A=a;rule B=b as 0;rule B=A cost 2;rule C=C;";
        for (String sentence : new String[] {"aa", "ba", "b", ""}) {
            Desk warm = new Desk(text, "ab");
            warm.answers();
            warm.say(sentence);
            Desk cold = new Desk(text, sentence);
            warm.due("'" + sentence + "'", warm.answers(), cold.answers());
        }
    }

    static void p06WithoutEnd() {
        Desk d = new Desk();
        d.due("twenty", feedText(d, "a"), 20).due("more than 8", d.x.say(), FAULTY);
    }

    // ---- 7 count ----

    static void p07Others() {
        Desk d = used();
        d.due("-1", d.x.count(-1), NONE).due("10", d.x.count(10), NONE).due("11", d.x.count(11), NONE);
        d.due("lowest", d.x.count(LOWEST), NONE).due("highest", d.x.count(HIGHEST), NONE);
        d.due("0", d.x.count(0), 3).due("9", d.x.count(9), 2);
    }

    static void p07StartWithoutRules() {
        Desk d = new Desk();
        d.due("new", d.x.count(2), NONE);
        d.grammar("rule L=a;");
        d.due("one", d.x.count(2), 11);
        d.grammar(MODULO_3);
        d.due("a table alone", d.x.count(2), NONE);
    }

    static void p07Items() {
        Desk d = new Desk(Edges.ALL, "");
        d.due("no letters", d.x.count(6), 0);
        d.say("aaaaaaaa");
        d.due("12 labels, 36 spans", d.x.count(6), 432);
        d.say("b");
        d.due("no trees", d.x.count(6), 0);
        d.say("aba");
        d.due("both a", d.x.count(6), 24);
        d.x.drops(1, 1);
        d.due("no rule with a letter", d.x.count(6), 0);
        d.x.drops(1, 0);
        d.grammar("");
        d.due("no rules", d.x.count(6), 0);
    }

    static void p07BytesOfTheTape() {
        Desk d = new Desk();
        d.due("empty", d.x.count(7), 0);
        fill(d, 50);
        d.due("full", d.x.count(7), 1000);
        d.x.end(1);
        d.due("one", d.x.count(7), 1);
        d.x.say();
        d.due("taken", d.x.count(7), 0);
    }

    static void p07BytesOfOut() {
        Desk d = new Desk(THREE, "a");
        d.due("none", d.x.count(8), 0);
        d.x.tell(0, 0, 1, 0);
        d.due("(A a)", d.x.count(8), 5);
        d.x.tell(0, 0, 1, 1);
        d.due("stays", d.x.count(8), 5);
    }

    static void p07RulesThatAreNotOut() {
        Desk d = new Desk(THREE, "");
        d.due("all", d.x.count(9), 3);
        for (int rule = 0; rule < 3; rule++) {
            d.x.drops(rule, 1);
            d.due("one less", d.x.count(9), 2 - rule).due("RULES stay", d.x.count(0), 3);
        }
        d.x.drops(1, 0);
        d.due("one again", d.x.count(9), 1);
    }

    // ---- 8 rule ----

    static void p08NoSuchRule() {
        Desk d = new Desk(THREE, "");
        for (int what = 0; what < 6; what++) {
            d.due("-1", d.x.rule(-1, what), REFUSED).due("3", d.x.rule(3, what), REFUSED);
            d.due("2", d.x.rule(2, what) == REFUSED ? 1 : 0, 0);
        }
        d.due("40", d.x.rule(40, 0), REFUSED).due("lowest", d.x.rule(LOWEST, 0), REFUSED);
        d.due("highest", d.x.rule(HIGHEST, 0), REFUSED);
    }

    static void p08FullGrammar() {
        Desk d = new Desk("rule A=a;".repeat(39) + "rule L=zL cost 99 as 0;", "");
        int[] want = {11, 125, 11, 99, 0, 0};
        for (int what = 0; what < 6; what++) {
            d.due("39, " + what, d.x.rule(39, what), want[what]).due("40", d.x.rule(40, what), REFUSED);
        }
    }

    static void p08NoSuchWhat() {
        Desk d = new Desk(THREE, "");
        d.due("-1", d.x.rule(0, -1), REFUSED).due("6", d.x.rule(0, 6), REFUSED).due("5", d.x.rule(0, 5), 0);
        d.due("lowest", d.x.rule(0, LOWEST), REFUSED).due("highest", d.x.rule(0, HIGHEST), REFUSED);
        d.due("0", d.x.rule(0, 0), 0);
    }

    static void p08PartsAtTheirEnds() {
        Desk d = new Desk("rule A=Aa;rule L=Lz;rule A=a;rule L=L;", "");
        d.due("A", d.x.rule(0, 1), 0).due("a", d.x.rule(0, 2), 100).due("L", d.x.rule(1, 1), 11).due("z", d.x.rule(1, 2), 125);
        d.due("no second of a letter", d.x.rule(2, 2), NONE).due("no second of a label", d.x.rule(3, 2), NONE);
    }

    static void p08OutOnesAreThere() {
        Desk d = new Desk(THREE, "");
        d.x.drops(2, 1);
        d.due("OUT", d.x.rule(2, 5), 1).due("its label", d.x.rule(2, 0), 1).due("its cost", d.x.rule(2, 3), 99);
        d.x.drops(2, 0);
        d.due("no more", d.x.rule(2, 5), 0);
    }

    // ---- 9 table ----

    static void p09BelowN() {
        for (int n = 2; n <= 5; n++) {
            Desk d = new Desk("table " + n + " zero 0 one 1 plus" + " 0".repeat(n * n - 1) + " 1 times"
                + " 0".repeat(n * n - 1) + " 1;", "");
            for (int what = 0; what < 2; what++) {
                d.due("the last ones", d.x.table(what, n - 1, n - 1), 1).due("the first ones", d.x.table(what, 0, 0), 0);
                d.due("a is N", d.x.table(what, n, 0), REFUSED).due("b is N", d.x.table(what, 0, n), REFUSED);
                d.due("a -1", d.x.table(what, -1, n - 1), REFUSED).due("b -1", d.x.table(what, n - 1, -1), REFUSED);
                d.due("a lowest", d.x.table(what, LOWEST, 0), REFUSED).due("b", d.x.table(what, 0, HIGHEST), REFUSED);
            }
        }
    }

    static void p09NoSuchWhat() {
        Desk d = new Desk(THREE, "");
        d.due("-1", d.x.table(-1, 0, 0), REFUSED).due("2", d.x.table(2, 0, 0), REFUSED);
        d.due("lowest", d.x.table(LOWEST, 0, 0), REFUSED).due("highest", d.x.table(HIGHEST, 0, 0), REFUSED);
    }

    static void p09SmallerThanTheOneAhead() {
        Desk d = new Desk("table 5 zero 0 one 1 plus" + " 4".repeat(25) + " times" + " 3".repeat(25) + ";", "");
        d.due("4 + 4", d.x.table(0, 4, 4), 4);
        d.grammar(MODULO_3);
        d.due("3 is no more", d.x.table(0, 3, 0), REFUSED).due("2 + 2", d.x.table(0, 2, 2), 1).due("2 2", d.x.table(1, 2, 2), 1);
    }

    // ---- 10 drops ----

    static void p10OnAndOff() {
        Desk d = new Desk(THREE, "aab");
        d.due("0: it is not", d.x.drops(0, 0), 0).due("1", d.x.drops(0, 1), 1).due("1 again", d.x.drops(0, 1), 0);
        d.due("OUT", d.x.rule(0, 5), 1).due("0", d.x.drops(0, 0), 1).due("0 again", d.x.drops(0, 0), 0);
        d.due("no more", d.x.rule(0, 5), 0).due("aa", d.x.can(0, 0, 2), 1);
    }

    static void p10RefusedAndAllStays() {
        Desk d = used();
        String before = d.picture();
        d.due("on -1", d.x.drops(0, -1), REFUSED).due("on 2", d.x.drops(0, 2), REFUSED);
        d.due("on lowest", d.x.drops(2, LOWEST), REFUSED).due("on highest", d.x.drops(2, HIGHEST), REFUSED);
        d.due("rule -1", d.x.drops(-1, 1), REFUSED).due("rule 3", d.x.drops(3, 1), REFUSED);
        d.due("rule 3, 0", d.x.drops(3, 0), REFUSED).due("lowest", d.x.drops(LOWEST, 1), REFUSED);
        d.due("highest", d.x.drops(HIGHEST, 0), REFUSED);
        d.due("all stays", d.picture(), before).due("the next call", d.x.drops(2, 0), 1);
    }

    static void p10AllOut() {
        Desk d = new Desk(Edges.ALL, "aa");
        for (int rule = 0; rule < 13; rule++) {
            d.due("out", d.x.drops(rule, 1), 1);
        }
        d.due("none is left", d.x.count(9), 0).due("no trees", d.x.count(6), 0).due("alive", d.x.alive(), 0);
        d.due("heads", d.x.heads(), 0).due("mends", d.x.mends(), 0).due("rounds", d.x.rounds(), 1);
        for (int rule = 0; rule < 13; rule++) {
            d.due("in", d.x.drops(rule, 0), 1);
        }
        d.due("all trees", d.x.count(6), 36).due("alive", d.x.alive(), 3);
    }

    static void p10AllIsFoundAnew() {
        String text = "rule A=AB cost 3;rule A=a;rule B=b;rule B=A cost 2;rule C=b;rule C=C;";
        for (int rule = 0; rule < 6; rule++) {
            Desk warm = new Desk(text, "ab");
            warm.answers();
            warm.x.drops(rule, 1);
            Desk cold = new Desk(text, "ab");
            cold.x.drops(rule, 1);
            warm.due("rule " + rule, warm.answers(), cold.answers());
        }
    }

    static void p10TheLastOfForty() {
        Desk d = new Desk("rule B=b;".repeat(39) + "rule A=a;", "a");
        d.due("39", d.x.drops(39, 1), 1).due("no tree", d.x.can(0, 0, 1), 0).due("40", d.x.drops(40, 1), REFUSED);
    }

    // ---- 11 prices ----

    static void p11From1To99() {
        Desk d = new Desk("rule A=a cost 50;", "a");
        d.due("1", d.x.prices(0, 1), 50).due("least", d.x.least(0, 0, 1), 1).due("99", d.x.prices(0, 99), 1);
        d.due("least", d.x.least(0, 0, 1), 99).due("the same", d.x.prices(0, 99), 99).due("99", d.x.rule(0, 3), 99);
        d.due("0", d.x.prices(0, 0), REFUSED).due("100", d.x.prices(0, 100), REFUSED).due("-1", d.x.prices(0, -1), REFUSED);
        d.due("still", d.x.least(0, 0, 1), 99).due("the next call", d.x.prices(0, 2), 99).due("2", d.x.least(0, 0, 1), 2);
    }

    static void p11RefusedAndAllStays() {
        Desk d = used();
        String before = d.picture();
        d.due("0", d.x.prices(0, 0), REFUSED).due("100", d.x.prices(0, 100), REFUSED);
        d.due("lowest", d.x.prices(0, LOWEST), REFUSED).due("highest", d.x.prices(0, HIGHEST), REFUSED);
        d.due("rule -1", d.x.prices(-1, 5), REFUSED).due("rule 3", d.x.prices(3, 5), REFUSED);
        d.due("lowest", d.x.prices(LOWEST, 5), REFUSED).due("highest", d.x.prices(HIGHEST, 5), REFUSED);
        d.due("all stays", d.picture(), before).due("the next call", d.x.prices(2, 5), 99).due("5", d.x.rule(2, 3), 5);
    }

    static void p11OfARuleThatIsOut() {
        Desk d = used();
        d.due("99", d.x.prices(2, 3), 99).due("3", d.x.rule(2, 3), 3).due("OUT", d.x.rule(2, 5), 1);
        d.x.drops(2, 0);
        d.due("3", d.x.least(1, 2, 3), 3);
    }

    static void p11AllIsFoundAnew() {
        String text = "rule A=AB cost 3;rule A=a;rule B=b;rule B=A cost 2;rule C=b;rule C=C;";
        for (int rule = 0; rule < 6; rule++) {
            Desk warm = new Desk(text, "ab");
            warm.answers();
            warm.x.prices(rule, 9);
            Desk cold = new Desk(text, "ab");
            cold.x.prices(rule, 9);
            warm.due("rule " + rule, warm.answers(), cold.answers());
        }
    }

    static void p11TheLastOfForty() {
        Desk d = new Desk("rule B=b;".repeat(39) + "rule A=a;", "a");
        d.due("39", d.x.prices(39, 9), 1).due("9", d.x.least(0, 0, 1), 9).due("40", d.x.prices(40, 9), REFUSED);
    }

    // ---- 12 elements ----

    static void p12BelowN() {
        for (int n = 2; n <= 5; n++) {
            Desk d = new Desk("table " + n + " zero 0 one 1 plus" + " 0".repeat(n * n) + " times" + " 0".repeat(n * n)
                + ";rule A=a;", "");
            d.due("N - 1", d.x.elements(0, n - 1), 1).due("it is", d.x.rule(0, 4), n - 1);
            d.due("N", d.x.elements(0, n), REFUSED).due("-1", d.x.elements(0, -1), REFUSED).due("stays", d.x.rule(0, 4), n - 1);
            d.due("0", d.x.elements(0, 0), n - 1).due("0 again", d.x.elements(0, 0), 0).due("it is", d.x.rule(0, 4), 0);
        }
    }

    static void p12RefusedAndAllStays() {
        Desk d = used();
        String before = d.picture();
        d.due("3", d.x.elements(0, 3), REFUSED).due("-1", d.x.elements(0, -1), REFUSED);
        d.due("lowest", d.x.elements(0, LOWEST), REFUSED).due("highest", d.x.elements(0, HIGHEST), REFUSED);
        d.due("rule -1", d.x.elements(-1, 0), REFUSED).due("rule 3", d.x.elements(3, 0), REFUSED);
        d.due("lowest", d.x.elements(LOWEST, 0), REFUSED).due("highest", d.x.elements(HIGHEST, 0), REFUSED);
        d.due("all stays", d.picture(), before).due("the next call", d.x.elements(1, 0), 2).due("0", d.x.rule(1, 4), 0);
        d.due("its value", d.x.value(0, 0, 1), 0);
    }

    static void p12AllIsFoundAnew() {
        String text = "rule A=AB cost 3;rule A=a;rule B=b;rule B=A cost 2;rule C=b;rule C=C;";
        for (int rule = 0; rule < 6; rule++) {
            Desk warm = new Desk(text, "ab");
            warm.answers();
            warm.x.elements(rule, 0);
            Desk cold = new Desk(text, "ab");
            cold.x.elements(rule, 0);
            warm.due("rule " + rule, warm.answers(), cold.answers());
        }
    }

    static void p12TheLastOfForty() {
        Desk d = new Desk("rule B=b;".repeat(39) + "rule A=a;", "a");
        d.due("39", d.x.elements(39, 0), 1).due("0", d.x.value(0, 0, 1), 0).due("40", d.x.elements(40, 0), REFUSED);
    }
}
