/** Grammars that several tests use. */
final class Grammars {
    /** Over aaaaaaab: A has 100 to the 7th times 10 trees, all of cost 22, and B one more, of cost 8. */
    static final String EDGE = "rule A=HA;" + "rule A=b;".repeat(10) + "rule H=K;".repeat(10)
        + "rule K=a;".repeat(10) + "rule B=A;rule B=aC;rule C=aC;rule C=b;";
    /** The number of its last rule: without it B has no more trees than A. */
    static final int EDGE_LAST = 34;
    /** One and one is zero: a rule that has its own label as its one part never settles. */
    static final String FLIP = "table 2 zero 0 one 1 plus 0 1 1 0 times 0 0 0 1;";

    private Grammars() {
    }

    /** A round for each of 96 steps by A .. H, four by each label over each of three spans, then one each. */
    static String slow() {
        StringBuilder text = new StringBuilder("table 5 zero 0 one 1 plus");
        for (int a = 0; a < 25; a++) {
            text.append(' ').append(Math.max(a / 5, a % 5));
        }
        text.append(" times 0 0 0 0 0 0 1 2 3 4 0 0 0 0 1 0 2 3 4 4 0 0 0 0 0;rule A=a;rule A=H a as 2;rule A=A as 3;");
        for (char label = 'B'; label <= 'H'; label++) {
            text.append("rule ").append(label).append('=').append((char) (label - 1)).append(" as 2;");
            text.append("rule ").append(label).append('=').append(label).append(" as 3;");
        }
        return text.append("rule I=H;rule J=I;rule K=J;rule L=K;").toString();
    }

    /** A ring of all twelve labels; the last one has the letter a, and pairs. */
    static String bigRing() {
        StringBuilder text = new StringBuilder();
        for (int label = 0; label < 12; label++) {
            text.append("rule ").append((char) ('A' + label)).append('=').append((char) ('A' + (label + 1) % 12)).append(';');
        }
        return text.append("rule L=a;rule L=AA;").toString();
    }
}
