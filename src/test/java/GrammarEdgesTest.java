/** Terms I: the boundary cases of a grammar's text, each just inside and just outside. */
public final class GrammarEdgesTest {
    private static final int NONE = Edges.NONE;
    private static final int FAULTY = Edges.FAULTY;
    private static final int REFUSED = Edges.REFUSED;
    private static final String TABLE_2 = "table 2 zero 0 one 1 plus 0 1 1 1 times 0 0 0 1;";
    private static final String FORTY = "rule A=a;".repeat(40);

    public static void main(String[] args) {
        Edges.run(GrammarEdgesTest.class, "t1");
    }

    private static Desk fine(String text, int rules) {
        Desk d = new Desk();
        d.due("'" + text + "'", d.grammar(text), rules);
        d.due("no fault of '" + text + "'", d.x.fault(0), 0).due("no place of '" + text + "'", d.x.fault(1), NONE);
        return d;
    }

    private static void faulty(String text, int number, int place) {
        Desk d = new Desk();
        d.due("'" + text + "'", d.grammar(text), FAULTY);
        d.due("fault of '" + text + "'", d.x.fault(0), number).due("place of '" + text + "'", d.x.fault(1), place);
        d.due("no rules of '" + text + "'", d.x.count(0), 0);
    }

    /** A table all of whose sums and products are 0. */
    private static String table(int n, int zero, int one) {
        return "table " + n + " zero " + zero + " one " + one + " plus" + " 0".repeat(n * n) + " times"
            + " 0".repeat(n * n) + ";";
    }

    // ---- TEXT: {LINE ;} ----

    static void t1TextWithoutLines() {
        fine("", 0);
        fine(" ", 0);
        fine("\n", 0);
        fine(" \n \n\n  ", 0);
    }

    static void t1EachLineHasItsSemicolon() {
        fine("rule A=a;", 1);
        faulty("rule A=a", 1, 8);
        fine("rule A=a;rule B=b;", 2);
        faulty("rule A=a;rule B=b", 1, 17);
        faulty("rule A=a rule B=b;", 1, 9);
        fine(TABLE_2, 0);
        faulty(TABLE_2.substring(0, 47), 1, 47);
        faulty(TABLE_2.substring(0, 47) + " rule A=a;", 1, 48);
    }

    static void t1NoEmptyLine() {
        faulty(";", 1, 0);
        faulty(" ;", 1, 1);
        faulty("rule A=a;;", 1, 9);
        faulty(";rule A=a;", 1, 0);
        faulty(TABLE_2 + ";", 1, 48);
    }

    static void t1TextThatFillsTheTape() {
        String rule = "rule A=a;";
        fine(rule + " ".repeat(991), 1);
        fine(" ".repeat(991) + rule, 1);
        faulty(" ".repeat(992) + "rule A=a", 1, 1000);
        faulty(" ".repeat(999) + "?", 1, 999);
    }

    // ---- LINE: table ----

    static void t1TableIsTheFirstLine() {
        fine(TABLE_2, 0);
        fine(TABLE_2 + "rule A=a;", 1);
        fine("\n " + TABLE_2 + "rule A=a;", 1);
    }

    static void t1TableIsNoOtherLine() {
        faulty("rule A=a;" + TABLE_2, 1, 9);
        faulty(TABLE_2 + TABLE_2, 1, 48);
        faulty(TABLE_2 + "rule A=a;" + TABLE_2, 1, 57);
        faulty("rule A=a;table", 1, 9);
    }

    private static void tableWithoutOne(Desk d) {
        d.due("N", d.x.count(3), 2).due("zero", d.x.count(4), 0).due("one", d.x.count(5), 1);
        d.due("0 + 0", d.x.table(0, 0, 0), 0).due("0 + 1", d.x.table(0, 0, 1), 1);
        d.due("1 + 0", d.x.table(0, 1, 0), 1).due("1 + 1", d.x.table(0, 1, 1), 1);
        d.due("0 0", d.x.table(1, 0, 0), 0).due("0 1", d.x.table(1, 0, 1), 0);
        d.due("1 0", d.x.table(1, 1, 0), 0).due("1 1", d.x.table(1, 1, 1), 1);
        d.due("no 2", d.x.table(0, 2, 0), REFUSED).due("no 2", d.x.table(1, 0, 2), REFUSED);
    }

    static void t1WithoutATable() {
        Desk d = new Desk();
        tableWithoutOne(d);
        d.grammar("rule A=a;");
        tableWithoutOne(d);
        d.grammar(table(5, 4, 3));
        d.grammar("rule A=a;");
        tableWithoutOne(d);
        d.due("E is 1 again", d.x.rule(0, 4), 1);
        d.grammar("table 2 zero 1 one 0 plus 1 0 0 0 times 1 1 1 0;");
        d.grammar("");
        tableWithoutOne(d);
    }

    static void t1NFrom2To5() {
        for (int n = 2; n <= 5; n++) {
            Desk d = fine(table(n, 0, 0), 0);
            d.due("N", d.x.count(3), n);
        }
        faulty(table(1, 0, 0), 2, 6);
        faulty(table(0, 0, 0), 2, 6);
        faulty(table(6, 0, 0), 2, 6);
        faulty("table 10 zero 0", 2, 6);
        faulty("table 4294967298 zero 0", 2, 6);
        faulty("table -2 zero 0", 1, 6);
        faulty("table zero 0", 1, 6);
    }

    static void t1ZeroBelowN() {
        for (int n = 2; n <= 5; n++) {
            Desk least = fine(table(n, 0, 1), 0);
            least.due("zero 0", least.x.count(4), 0);
            Desk most = fine(table(n, n - 1, 0), 0);
            most.due("zero below N", most.x.count(4), n - 1);
            faulty(table(n, n, 0), 2, 13);
        }
    }

    static void t1OneBelowN() {
        for (int n = 2; n <= 5; n++) {
            Desk least = fine(table(n, 1, 0), 0);
            least.due("one 0", least.x.count(5), 0);
            Desk most = fine(table(n, 0, n - 1), 0);
            most.due("one below N", most.x.count(5), n - 1);
            faulty(table(n, 0, n), 2, 19);
        }
    }

    static void t1ZeroAndOneCanBeTheSame() {
        Desk d = fine(table(3, 2, 2), 0);
        d.due("zero", d.x.count(4), 2).due("one", d.x.count(5), 2);
    }

    static void t1EachDBelowN() {
        for (int n = 2; n <= 5; n++) {
            for (int at = 0; at < 2 * n * n; at++) {
                // Behind 'table 2 zero 0 one 0 plus', and, for a product, ' times', each D has a blank and a digit.
                int place = 26 + 2 * at + (at < n * n ? 0 : 6);
                String text = table(n, 0, 0);
                String most = text.substring(0, place) + (n - 1) + text.substring(place + 1);
                String more = text.substring(0, place) + n + text.substring(place + 1);
                int a = at % (n * n) / n;
                int b = at % n;
                Desk d = fine(most, 0);
                d.due("D " + at + " of " + n, d.x.table(at < n * n ? 0 : 1, a, b), n - 1);
                faulty(more, 2, place);
            }
        }
    }

    static void t1AsManyDAsNTimesN() {
        for (int n = 2; n <= 5; n++) {
            String head = "table " + n + " zero 0 one 0 plus";
            String rows = " 1".repeat(n * n);
            int words = head.length() + 2 * n * n;
            fine(head + rows + " times" + rows + ";", 0);
            faulty(head + rows.substring(2) + " times" + rows + ";", 1, words - 1);
            faulty(head + rows + " 1 times" + rows + ";", 1, words + 1);
            faulty(head + rows + " times" + rows.substring(2) + ";", 1, words + 6 + 2 * n * n - 2);
            faulty(head + rows + " times" + rows + " 1;", 1, words + 6 + 2 * n * n + 1);
            faulty(head + " times" + rows + ";", 1, head.length() + 1);
            faulty(head + rows + " times;", 1, words + 6);
        }
    }

    static void t1DNumberATimesNAndB() {
        for (int n = 2; n <= 5; n++) {
            StringBuilder text = new StringBuilder("table " + n + " zero 0 one 0 plus");
            for (int d = 0; d < n * n; d++) {
                text.append(' ').append(d / n);
            }
            text.append(" times");
            for (int d = 0; d < n * n; d++) {
                text.append(' ').append(d % n);
            }
            Desk desk = fine(text.append(';').toString(), 0);
            for (int a = 0; a < n; a++) {
                for (int b = 0; b < n; b++) {
                    desk.due("the first of the sum", desk.x.table(0, a, b), a);
                    desk.due("the second of the product", desk.x.table(1, a, b), b);
                }
            }
        }
    }

    // ---- LINE: rule ----

    static void t1OnePartOrTwo() {
        faulty("rule A=;", 1, 7);
        Desk one = fine("rule A=B;", 1);
        one.due("no second", one.x.rule(0, 2), NONE);
        Desk two = fine("rule A=B C;", 1);
        two.due("a second", two.x.rule(0, 2), 2);
        faulty("rule A=B C D;", 1, 11);
        faulty("rule A=a b c;", 1, 11);
        faulty("rule A=cost 5;", 1, 7);
    }

    /** Every byte where the LABEL stands: A .. L and no other. */
    static void t1LabelFromAToL() {
        for (int sign = 0; sign < 256; sign++) {
            String text = "rule " + (char) sign + "=a;";
            if (sign >= 'A' && sign <= 'L') {
                Desk d = fine(text, 1);
                d.due("its number", d.x.rule(0, 0), sign - 'A');
            } else {
                faulty(text, 1, sign == 32 || sign == 10 ? 6 : 5);
            }
        }
    }

    /** Every byte where the first PART stands: A .. L, a .. z. */
    static void t1FirstPart() {
        for (int sign = 0; sign < 256; sign++) {
            String text = "rule A=" + (char) sign + ";";
            if (sign >= 'A' && sign <= 'L' || sign >= 'a' && sign <= 'z') {
                Desk d = fine(text, 1);
                d.due("its number", d.x.rule(0, 1), sign >= 'a' ? 100 + sign - 'a' : sign - 'A');
                d.due("no second", d.x.rule(0, 2), NONE);
            } else {
                faulty(text, 1, sign == 32 || sign == 10 ? 8 : 7);
            }
        }
    }

    /** Every byte where the second PART can stand. */
    static void t1SecondPart() {
        for (int sign = 0; sign < 256; sign++) {
            String text = "rule A=B" + (char) sign + ";";
            if (sign >= 'A' && sign <= 'L' || sign >= 'a' && sign <= 'z') {
                Desk d = fine(text, 1);
                d.due("its number", d.x.rule(0, 2), sign >= 'a' ? 100 + sign - 'a' : sign - 'A');
            } else if (sign == 32 || sign == 10) {
                Desk d = fine(text, 1);
                d.due("no second", d.x.rule(0, 2), NONE);
            } else {
                faulty(text, 1, sign == ';' ? 9 : 8);
            }
        }
    }

    static void t1LetterIsAWordOfOneLetter() {
        fine("rule A=z;", 1);
        faulty("rule A=zz;", 1, 7);
        fine("rule A=z z;", 1);
        faulty("rule A=z zz;", 1, 9);
        faulty("rule A=B zz;", 1, 9);
        faulty("rule A=rule;", 1, 7);
        faulty("rule a=z;", 1, 5);
    }

    static void t1CostFrom1To99() {
        for (int cost : new int[] {1, 2, 9, 10, 98, 99}) {
            Desk d = fine("rule A=a cost " + cost + ";", 1);
            d.due("cost", d.x.rule(0, 3), cost);
        }
        faulty("rule A=a cost 0;", 2, 14);
        faulty("rule A=a cost 100;", 2, 14);
        faulty("rule A=a cost 00;", 2, 14);
        faulty("rule A=a cost 999;", 2, 14);
        faulty("rule A=a cost -1;", 1, 14);
        faulty("rule A=a cost;", 1, 13);
    }

    static void t1CostWithout() {
        Desk d = fine("rule A=a;rule A=b cost 7;rule A=c;", 3);
        d.due("1", d.x.rule(0, 3), 1).due("7", d.x.rule(1, 3), 7).due("1 again", d.x.rule(2, 3), 1);
    }

    /** Numbers that come round to a small one in 32 or 64 bits, and one that fills the tape. */
    static void t1NumbersOfManyDigits() {
        faulty("rule A=a cost 256;", 2, 14);
        faulty("rule A=a cost 65537;", 2, 14);
        faulty("rule A=a cost 2147483648;", 2, 14);
        faulty("rule A=a cost 4294967295;", 2, 14);
        faulty("rule A=a cost 4294967297;", 2, 14);
        faulty("rule A=a cost 18446744073709551617;", 2, 14);
        faulty("rule A=a cost 1" + "0".repeat(984) + ";", 2, 14);
        faulty("rule A=a as 4294967296;", 2, 12);
        faulty("table 3 zero 4294967296 one 0", 2, 13);
    }

    static void t1EBelowN() {
        for (int n = 2; n <= 5; n++) {
            String head = table(n, 0, 0);
            Desk least = fine(head + "rule A=a as 0;", 1);
            least.due("0", least.x.rule(0, 4), 0);
            Desk most = fine(head + "rule A=a as " + (n - 1) + ";", 1);
            most.due("below N", most.x.rule(0, 4), n - 1);
            faulty(head + "rule A=a as " + n + ";", 2, head.length() + 12);
        }
        fine("rule A=a as 0;rule A=a as 1;", 2);
        faulty("rule A=a as 2;", 2, 12);
        faulty("rule A=a as;", 1, 11);
        faulty("rule A=a as b;", 1, 12);
    }

    static void t1EWithout() {
        for (int one = 0; one < 5; one++) {
            Desk d = fine(table(5, 1, one) + "rule A=a;rule B=b cost 3;rule B=b as 2;rule C=C C;", 4);
            d.due("the one", d.x.rule(0, 4), one).due("the one", d.x.rule(1, 4), one).due("2", d.x.rule(2, 4), 2);
            d.due("the one again", d.x.rule(3, 4), one);
        }
    }

    static void t1CostAheadOfAs() {
        Desk d = fine("rule A=a cost 5 as 0;", 1);
        d.due("cost", d.x.rule(0, 3), 5).due("E", d.x.rule(0, 4), 0);
        faulty("rule A=a as 0 cost 5;", 1, 14);
        faulty("rule A=a cost 5 cost 6;", 1, 16);
        faulty("rule A=a as 0 as 1;", 1, 14);
        faulty("rule A=a cost 5 6;", 1, 16);
        faulty("rule A=a cost 5 B;", 1, 16);
    }

    static void t1RulesFrom0To39() {
        Desk most = fine(FORTY, 40);
        most.due("39", most.x.rule(39, 0), 0).due("40", most.x.rule(40, 0), REFUSED);
        Desk less = fine("rule A=a;".repeat(39), 39);
        less.due("38", less.x.rule(38, 0), 0).due("39", less.x.rule(39, 0), REFUSED);
        Desk table = fine(TABLE_2 + FORTY, 40);
        table.due("a table is no rule", table.x.count(0), 40);
    }

    static void t1StartIsTheLabelOfRule0() {
        Desk d = fine("rule L=a;rule A=b;", 2);
        d.due("L", d.x.count(2), 11);
        d.x.drops(0, 1);
        d.due("L if it is OUT", d.x.count(2), 11);
        d.x.drops(1, 1);
        d.due("L if all are OUT", d.x.count(2), 11);
        d.grammar("rule A=b;rule L=a;");
        d.due("A", d.x.count(2), 0);
        d.grammar("");
        d.due("none", d.x.count(2), NONE);
    }

    // ---- TOKENS ----

    /** Every byte ahead of a text, and behind one: 32 and 10 are blanks, no other is. */
    static void t1BlanksAre32And10() {
        for (int sign = 0; sign < 256; sign++) {
            if (sign == 32 || sign == 10) {
                fine((char) sign + "rule A=a;", 1);
                fine("rule A=a;" + (char) sign, 1);
                fine("rule" + (char) sign + "A=a;", 1);
            } else {
                faulty((char) sign + "rule A=a;", 1, 0);
                faulty("rule A=a;" + (char) sign, 1, 9);
            }
        }
        faulty("rule\tA=a;", 1, 4);
        faulty("rule\rA=a;", 1, 4);
        faulty("rule" + (char) 0 + "A=a;", 1, 4);
    }

    static void t1BlanksWhereverTheyStand() {
        String text = "\n table \n 2 zero\n0 one 1\n\nplus 0  1\n1 1 times 0 0\n0 1 ; \nrule  L =\na\nB  cost\n9\nas  0\n;\n ";
        Desk d = fine(text, 1);
        d.due("cost", d.x.rule(0, 3), 9).due("E", d.x.rule(0, 4), 0).due("B", d.x.rule(0, 2), 1);
    }

    static void t1NoBlanksWhereKindsChange() {
        Desk d = fine("table2zero0one1plus0 1 1 1times0 0 0 1;ruleA=Bz;ruleL=aB cost9as0;ruleC=Ccost7;", 3);
        d.due("z", d.x.rule(0, 2), 125).due("cost", d.x.rule(1, 3), 9).due("E", d.x.rule(1, 4), 0);
        d.due("B", d.x.rule(1, 2), 1).due("no second", d.x.rule(2, 2), NONE).due("7", d.x.rule(2, 3), 7);
    }

    static void t1WordsAreTheLongest() {
        faulty("ruler A=a;", 1, 0);
        faulty("rulea=a;", 1, 0);
        faulty("rul e A=a;", 1, 0);
        faulty("rule A=acost 5;", 1, 7);
        faulty("rule A=a bcost 5;", 1, 9);
        faulty("rule A=a costs 5;", 1, 9);
        faulty("rule A=a cos 5;", 1, 9);
        faulty("rule A=a asas 1;", 1, 9);
        faulty("tables 2 zero 0", 1, 0);
        faulty("rule A=B as1as 0;", 1, 12);
    }

    static void t1NumbersAreTheLongest() {
        Desk d = fine("rule A=a cost 12;", 1);
        d.due("twelve", d.x.rule(0, 3), 12);
        faulty("rule A=a cost 1 2;", 1, 16);
        faulty("table 2 zero 0 one 1 plus 0111 times 0 0 0 1;", 2, 26);
        faulty("table 2 zero 11one 1", 2, 13);
        faulty("rule A=a cost 1/;", 1, 15);
        faulty("rule A=a cost 1:;", 1, 15);
    }

    static void t1OtherBytesAreSingle() {
        faulty("rule AB=a;", 1, 6);
        faulty("rule A==a;", 1, 7);
        faulty("Rule A=a;", 1, 0);
        faulty("rULE A=a;", 1, 0);
        Desk d = fine("rule A=BC;", 1);
        d.due("B", d.x.rule(0, 1), 1).due("C", d.x.rule(0, 2), 2);
    }

    // ---- FAULTS ----

    static void t1OfSeveralFaultsTheFirstByte() {
        faulty("rule A=a cost 0;rule M=a;", 2, 14);
        faulty("rule M=a;rule A=a cost 0;", 1, 5);
        faulty("rule A=a cost 0", 2, 14);
        faulty("table 6 zero 9 one 9 plus ?", 2, 6);
        faulty("table 2 zero 9 one 9 plus ?", 2, 13);
        faulty("rule A=a;".repeat(39) + "rule A=?;rule A=a;rule A=a;", 1, 358);
        faulty("rule A=a;".repeat(39) + "rule A=a cost 0;rule A=a;", 2, 365);
        faulty(FORTY + "rule M=a cost 0;", 3, 360);
        faulty(FORTY + "?", 1, 360);
    }

    static void t1OfOneByteTheLeastNumber() {
        // A number that can't stand there and would be out of any bounds.
        faulty("100", 1, 0);
        faulty("rule A=100;", 1, 7);
        faulty("rule A=a 100;", 1, 9);
        faulty("rule A=a cost 5 100;", 1, 16);
        faulty("rule A=a as 1 100;", 1, 14);
        faulty("table 2 100 zero", 1, 8);
        faulty("table 2 zero 0 one 1 100", 1, 21);
        faulty(TABLE_2.substring(0, 47) + " 100;", 1, 48);
        faulty(FORTY + "100", 1, 360);
    }

    static void t1A41stRuleAtItsWord() {
        fine(FORTY, 40);
        faulty(FORTY + "rule A=a;", 3, 360);
        faulty(FORTY + "rule A=a;rule A=a;", 3, 360);
        faulty(FORTY + " \n rule A=a;", 3, 363);
        faulty(FORTY + "rule", 3, 360);
        faulty(FORTY + "rule;", 3, 360);
        faulty(TABLE_2 + FORTY + "rule A=a;", 3, 408);
    }

    static void t1A41stLineThatIsNoRule() {
        faulty(FORTY + "rul", 1, 360);
        faulty(FORTY + "rulee A=a;", 1, 360);
        faulty(FORTY + "table 2 zero 0", 1, 360);
        faulty(FORTY + ";", 1, 360);
        faulty(FORTY + "A=a;", 1, 360);
    }

    /** Cut behind each TOKEN but the last of a LINE, the text has its fault at its end. */
    static void t1EndsPlace() {
        String[] tokens = ("table 2 zero 0 one 1 plus 0 1 1 1 times 0 0 0 1 ; rule A = a B cost 99 as 1 ; rule L = z ;")
            .split(" ");
        StringBuilder text = new StringBuilder();
        int rules = 0;
        for (String token : tokens) {
            text.append(token);
            if (!token.equals(";")) {
                faulty(text.toString(), 1, text.length());
                faulty(text + " ", 1, text.length() + 1);
                faulty(text + "\n\n  ", 1, text.length() + 4);
            } else {
                fine(text.toString(), rules);
            }
            rules += token.equals("as") || token.equals("L") ? 1 : 0;
            text.append(' ');
        }
    }

    static void t1EndsPlaceOfAFullTape() {
        faulty("rule A=a" + " ".repeat(992), 1, 1000);
        faulty("rule A=a" + " ".repeat(991), 1, 999);
        faulty("rule A=a cost" + "\n".repeat(987), 1, 1000);
        faulty(" ".repeat(985) + "rule A=a cost 5", 1, 1000);
        faulty(" ".repeat(992) + "rule A=B", 1, 1000);
    }

    static void t1AWordCutShortIsAtItsPlace() {
        faulty("rul", 1, 0);
        faulty("tabl", 1, 0);
        faulty("rule A=a cos", 1, 9);
        faulty("table 2 zer", 1, 8);
        faulty("rule A=a cost 5 a", 1, 16);
    }
}
