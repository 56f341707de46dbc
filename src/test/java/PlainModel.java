import java.math.BigInteger;
import java.util.ArrayList;
import java.util.Arrays;
import java.util.Comparator;
import java.util.HashMap;
import java.util.HashSet;
import java.util.List;
import java.util.Map;
import java.util.Set;
import java.util.TreeMap;

/**
 * The document said again, as plainly as can be and by other means than the program's: trees are
 * objects, numbers have no bound, a rule is in each tree if there is none without it, letters are
 * changed one by one. Slow; for small grammars.
 */
final class PlainModel {
    static final int REFUSED = -2;
    static final int FAULTY = -4;
    /** An answer that is too dear to find here. */
    static final long UNKNOWN = Long.MIN_VALUE;
    private static final BigInteger MOST = BigInteger.valueOf(1000000000000000L);

    static final class Rule {
        int head;
        int left;
        int right = -1;
        int cost = 1;
        int element;
        boolean out;
    }

    record Item(int label, int i, int j) {
    }

    record Case(int number, Rule rule, int m, Item left, Item right) {
    }

    record Tree(Item item, Case top, Tree left, Tree right, int cost) {
        List<int[]> steps() {
            List<int[]> all = new ArrayList<>();
            addSteps(all);
            return all;
        }

        private void addSteps(List<int[]> all) {
            all.add(new int[] {top.number(), item.i(), top.m(), item.j()});
            if (left != null) {
                left.addSteps(all);
            }
            if (right != null) {
                right.addSteps(all);
            }
        }

        int depth() {
            return 1 + Math.max(left == null ? 0 : left.depth(), right == null ? 0 : right.depth());
        }

        String text() {
            StringBuilder text = new StringBuilder("(").append((char) ('A' + item.label()));
            text.append(' ').append(left == null ? letter(top.rule().left) : left.text());
            if (top.rule().right != -1) {
                text.append(' ').append(right == null ? letter(top.rule().right) : right.text());
            }
            return text.append(')').toString();
        }

        private static String letter(int part) {
            return String.valueOf((char) ('a' + part - 100));
        }

        /** By rule, m and the parts' trees; whatever they cost. */
        int compareShape(Tree other) {
            int order = Integer.compare(top.number(), other.top.number());
            if (order == 0) {
                order = Integer.compare(top.m(), other.top.m());
            }
            if (order == 0 && left != null) {
                order = left.compareShape(other.left);
            }
            if (order == 0 && right != null) {
                order = right.compareShape(other.right);
            }
            return order;
        }
    }

    private final List<Integer> tape = new ArrayList<>();
    private List<Rule> rules = new ArrayList<>();
    private int base = 2;
    private int zero = 0;
    private int one = 1;
    private int[] plus = {0, 1, 1, 1};
    private int[] times = {0, 0, 0, 1};
    private String sentence = "";
    private String out = "";
    private int fault = 0;
    private int faultPlace = -1;
    private Map<Item, Map<Integer, List<Tree>>> treesByCost = new HashMap<>();
    private int budget;

    // ---- texts ----

    int feed(int... numbers) {
        if (tape.size() + 20 > 1000) {
            return -1;
        }
        for (int number : numbers) {
            for (int k = 3; k >= 0; k--) {
                tape.add((number >> (8 * k)) & 255);
            }
        }
        return tape.size();
    }

    int end(int n) {
        if (n < 0 || n > tape.size()) {
            return -1;
        }
        while (tape.size() > n) {
            tape.remove(tape.size() - 1);
        }
        return n;
    }

    private String takeTape() {
        StringBuilder text = new StringBuilder();
        for (int b : tape) {
            text.append((char) b);
        }
        tape.clear();
        return text.toString();
    }

    private static final class Fault extends RuntimeException {
        private static final long serialVersionUID = 1L;
        final int number;
        final int place;

        Fault(int number, int place) {
            this.number = number;
            this.place = place;
        }
    }

    record Token(String text, int place) {
    }

    private static List<Token> tokens(String text) {
        List<Token> all = new ArrayList<>();
        var matcher = java.util.regex.Pattern.compile("[a-z]+|[0-9]+|[^ \\n]", java.util.regex.Pattern.DOTALL)
            .matcher(text);
        while (matcher.find()) {
            all.add(new Token(matcher.group(), matcher.start()));
        }
        all.add(new Token("", text.length()));
        return all;
    }

    private static String must(Token token, String pattern) {
        if (!token.text.matches(pattern)) {
            throw new Fault(1, token.place);
        }
        return token.text;
    }

    private static int numberIn(Token token, int low, int high) {
        BigInteger number = new BigInteger(must(token, "[0-9]+"));
        if (number.compareTo(BigInteger.valueOf(low)) < 0 || number.compareTo(BigInteger.valueOf(high)) > 0) {
            throw new Fault(2, token.place);
        }
        return number.intValue();
    }

    private static int part(Token token) {
        String text = must(token, "[a-zA-L]");
        char sign = text.charAt(0);
        return sign >= 'a' ? 100 + sign - 'a' : sign - 'A';
    }

    int grammar() {
        String text = takeTape();
        PlainModel read = new PlainModel();
        try {
            read.readAll(tokens(text));
        } catch (Fault found) {
            fault = found.number;
            faultPlace = found.place;
            return FAULTY;
        }
        fault = 0;
        faultPlace = -1;
        rules = read.rules;
        base = read.base;
        zero = read.zero;
        one = read.one;
        plus = read.plus;
        times = read.times;
        return rules.size();
    }

    private void readAll(List<Token> all) {
        int at = 0;
        while (!all.get(at).text.isEmpty()) {
            if (at == 0 && all.get(at).text.equals("table")) {
                at = readTable(all, at + 1);
            } else {
                must(all.get(at), "rule");
                if (rules.size() == 40) {
                    throw new Fault(3, all.get(at).place);
                }
                at = readRule(all, at + 1);
            }
            must(all.get(at), ";");
            at++;
        }
    }

    private int readTable(List<Token> all, int from) {
        int at = from;
        base = numberIn(all.get(at++), 2, 5);
        must(all.get(at++), "zero");
        zero = numberIn(all.get(at++), 0, base - 1);
        must(all.get(at++), "one");
        one = numberIn(all.get(at++), 0, base - 1);
        must(all.get(at++), "plus");
        plus = new int[base * base];
        for (int k = 0; k < base * base; k++) {
            plus[k] = numberIn(all.get(at++), 0, base - 1);
        }
        must(all.get(at++), "times");
        times = new int[base * base];
        for (int k = 0; k < base * base; k++) {
            times[k] = numberIn(all.get(at++), 0, base - 1);
        }
        return at;
    }

    private int readRule(List<Token> all, int from) {
        int at = from;
        Rule rule = new Rule();
        rule.head = must(all.get(at++), "[A-L]").charAt(0) - 'A';
        must(all.get(at++), "=");
        rule.left = part(all.get(at++));
        if (all.get(at).text.matches("[a-zA-L]")) {
            rule.right = part(all.get(at++));
        }
        if (all.get(at).text.equals("cost")) {
            rule.cost = numberIn(all.get(at + 1), 1, 99);
            at += 2;
        }
        rule.element = one;
        if (all.get(at).text.equals("as")) {
            rule.element = numberIn(all.get(at + 1), 0, base - 1);
            at += 2;
        }
        rules.add(rule);
        return at;
    }

    int fault(int what) {
        return what == 0 ? fault : what == 1 ? faultPlace : -1;
    }

    int say() {
        String text = takeTape();
        if (!text.matches("[a-z]{0,8}")) {
            return FAULTY;
        }
        sentence = text;
        return text.length();
    }

    int count(int what) {
        switch (what) {
            case 0: return rules.size();
            case 1: return sentence.length();
            case 2: return rules.isEmpty() ? -1 : rules.get(0).head;
            case 3: return base;
            case 4: return zero;
            case 5: return one;
            case 6: return having(sentence, rules).size();
            case 7: return tape.size();
            case 8: return out.length();
            case 9: return (int) rules.stream().filter(rule -> !rule.out).count();
            default: return -1;
        }
    }

    private boolean noRule(int rule) {
        return rule < 0 || rule >= rules.size();
    }

    int rule(int number, int what) {
        if (noRule(number) || what < 0 || what > 5) {
            return REFUSED;
        }
        Rule rule = rules.get(number);
        return new int[] {rule.head, rule.left, rule.right, rule.cost, rule.element, rule.out ? 1 : 0}[what];
    }

    int table(int what, int a, int b) {
        if (what < 0 || what > 1 || a < 0 || b < 0 || a >= base || b >= base) {
            return REFUSED;
        }
        return (what == 0 ? plus : times)[a * base + b];
    }

    int drops(int rule, int on) {
        if (noRule(rule) || on < 0 || on > 1) {
            return REFUSED;
        }
        boolean before = rules.get(rule).out;
        rules.get(rule).out = on == 1;
        return before == (on == 1) ? 0 : 1;
    }

    int prices(int rule, int cost) {
        if (noRule(rule) || cost < 1 || cost > 99) {
            return REFUSED;
        }
        int before = rules.get(rule).cost;
        rules.get(rule).cost = cost;
        return before;
    }

    int elements(int rule, int element) {
        if (noRule(rule) || element < 0 || element >= base) {
            return REFUSED;
        }
        int before = rules.get(rule).element;
        rules.get(rule).element = element;
        return before;
    }

    // ---- items and cases ----

    private boolean noItem(int label, int i, int j) {
        return label < 0 || label > 11 || i < 0 || i >= j || j > sentence.length();
    }

    private static List<Item> items(String text) {
        List<Item> all = new ArrayList<>();
        for (int label = 0; label < 12; label++) {
            for (int i = 0; i < text.length(); i++) {
                for (int j = i + 1; j <= text.length(); j++) {
                    all.add(new Item(label, i, j));
                }
            }
        }
        return all;
    }

    private static boolean partFits(int part, String text, int i, int j) {
        return part < 100 || text.substring(i, j).equals(String.valueOf((char) ('a' + part - 100)));
    }

    private static Item partItem(int part, int i, int j) {
        return part < 100 ? new Item(part, i, j) : null;
    }

    private static List<Case> casesOf(Item item, String text, List<Rule> rules) {
        List<Case> all = new ArrayList<>();
        int i = item.i;
        int j = item.j;
        for (int number = 0; number < rules.size(); number++) {
            Rule rule = rules.get(number);
            if (rule.out || rule.head != item.label) {
                continue;
            }
            if (rule.right == -1) {
                if (partFits(rule.left, text, i, j)) {
                    all.add(new Case(number, rule, -1, partItem(rule.left, i, j), null));
                }
                continue;
            }
            for (int m = i + 1; m < j; m++) {
                if (partFits(rule.left, text, i, m) && partFits(rule.right, text, m, j)) {
                    all.add(new Case(number, rule, m, partItem(rule.left, i, m), partItem(rule.right, m, j)));
                }
            }
        }
        return all;
    }

    private Map<String, Map<Item, List<Case>>> caseCache = new HashMap<>();

    private Map<Item, List<Case>> allCases(String text, List<Rule> used) {
        StringBuilder key = new StringBuilder(text);
        for (Rule rule : used) {
            key.append('/').append(System.identityHashCode(rule)).append(rule.out);
        }
        return caseCache.computeIfAbsent(key.toString(), absent -> {
            Map<Item, List<Case>> all = new HashMap<>();
            for (Item item : items(text)) {
                all.put(item, casesOf(item, text, used));
            }
            return all;
        });
    }

    private Map<Item, List<Case>> allCases() {
        return allCases(sentence, rules);
    }

    private static boolean full(Case one, Set<Item> having) {
        return (one.left == null || having.contains(one.left)) && (one.right == null || having.contains(one.right));
    }

    private Set<Item> having(String text, List<Rule> used) {
        Map<Item, List<Case>> all = allCases(text, used);
        Set<Item> having = new HashSet<>();
        boolean changed = true;
        while (changed) {
            changed = false;
            for (Item item : all.keySet()) {
                if (!having.contains(item) && all.get(item).stream().anyMatch(one -> full(one, having))) {
                    having.add(item);
                    changed = true;
                }
            }
        }
        return having;
    }

    private static List<Rule> without(List<Rule> rules, java.util.function.Predicate<Rule> goes) {
        List<Rule> rest = new ArrayList<>();
        for (Rule rule : rules) {
            Rule copy = new Rule();
            copy.head = rule.head;
            copy.left = rule.left;
            copy.right = rule.right;
            copy.cost = rule.cost;
            copy.element = rule.element;
            copy.out = rule.out || goes.test(rule);
            rest.add(copy);
        }
        return rest;
    }

    // ---- what is told of an item ----

    int can(int label, int i, int j) {
        if (noItem(label, i, j)) {
            return REFUSED;
        }
        return having(sentence, rules).contains(new Item(label, i, j)) ? 1 : 0;
    }

    /** Costs go down from far above till nothing changes. */
    private Map<Item, Integer> leasts(String text, List<Rule> used) {
        Map<Item, List<Case>> all = allCases(text, used);
        Map<Item, Integer> least = new HashMap<>();
        boolean changed = true;
        while (changed) {
            changed = false;
            for (Map.Entry<Item, List<Case>> entry : all.entrySet()) {
                for (Case one : entry.getValue()) {
                    if (full(one, least.keySet())) {
                        int cost = one.rule.cost + (one.left == null ? 0 : least.get(one.left))
                            + (one.right == null ? 0 : least.get(one.right));
                        if (cost < least.getOrDefault(entry.getKey(), Integer.MAX_VALUE)) {
                            least.put(entry.getKey(), cost);
                            changed = true;
                        }
                    }
                }
            }
        }
        return least;
    }

    int least(int label, int i, int j) {
        return noItem(label, i, j) ? REFUSED : leasts(sentence, rules).getOrDefault(new Item(label, i, j), -1);
    }

    private static final BigInteger ENDLESS = BigInteger.ONE.negate();

    private BigInteger waysOf(Item item, Set<Item> having, Map<Item, BigInteger> known, Set<Item> open) {
        if (!having.contains(item)) {
            return BigInteger.ZERO;
        }
        if (known.containsKey(item)) {
            return known.get(item);
        }
        if (!open.add(item)) {
            return ENDLESS;
        }
        BigInteger number = BigInteger.ZERO;
        for (Case one : allCases().get(item)) {
            if (full(one, having)) {
                BigInteger left = one.left == null ? BigInteger.ONE : waysOf(one.left, having, known, open);
                BigInteger right = one.right == null ? BigInteger.ONE : waysOf(one.right, having, known, open);
                if (left.signum() < 0 || right.signum() < 0) {
                    number = ENDLESS;
                    break;
                }
                number = number.add(left.multiply(right));
            }
        }
        open.remove(item);
        // An endless one within an open ring is endless by itself, too: it comes to that ring.
        known.put(item, number);
        return number;
    }

    private static long told(BigInteger number) {
        return number.compareTo(MOST) > 0 ? -3 : number.longValueExact();
    }

    long ways(int label, int i, int j) {
        if (noItem(label, i, j)) {
            return REFUSED;
        }
        BigInteger number = waysOf(new Item(label, i, j), having(sentence, rules), new HashMap<>(), new HashSet<>());
        return number.signum() < 0 ? -5 : told(number);
    }

    int dearest(int label, int i, int j) {
        if (noItem(label, i, j)) {
            return REFUSED;
        }
        Item item = new Item(label, i, j);
        Set<Integer> costs = new java.util.TreeSet<>();
        rules.forEach(rule -> costs.add(rule.cost));
        for (int most : costs) {
            if (having(sentence, without(rules, rule -> rule.cost > most)).contains(item)) {
                return most;
            }
        }
        return -1;
    }

    /** Items that have a tree with a rule in it. */
    private Set<Item> havingWith(int number) {
        Map<Item, List<Case>> all = allCases();
        Set<Item> having = having(sentence, rules);
        Set<Item> with = new HashSet<>();
        boolean changed = true;
        while (changed) {
            changed = false;
            for (Item item : having) {
                for (Case one : all.get(item)) {
                    boolean in = one.number == number || one.left != null && with.contains(one.left)
                        || one.right != null && with.contains(one.right);
                    if (in && full(one, having) && with.add(item)) {
                        changed = true;
                    }
                }
            }
        }
        return with;
    }

    long used(int label, int i, int j, int what) {
        if (noItem(label, i, j) || what < 0 || what > 1) {
            return REFUSED;
        }
        Item item = new Item(label, i, j);
        long bits = 0;
        if (!having(sentence, rules).contains(item)) {
            return 0;
        }
        for (int number = 0; number < rules.size(); number++) {
            Rule left = rules.get(number);
            boolean in = what == 0 ? havingWith(number).contains(item)
                : !having(sentence, without(rules, rule -> rule == left)).contains(item);
            if (in) {
                bits |= 1L << number;
            }
        }
        return bits;
    }

    // ---- sums ----

    private static long determinant(long[][] m, int row, int free, Map<Integer, Long> known) {
        if (row == m.length) {
            return 1;
        }
        if (known.containsKey(free)) {
            return known.get(free);
        }
        long all = 0;
        int sign = 1;
        for (int column = 0; column < m.length; column++) {
            if ((free >> column & 1) == 1) {
                if (m[row][column] != 0) {
                    long rest = determinant(m, row + 1, free & ~(1 << column), known);
                    all = Math.floorMod(all + sign * m[row][column] * rest, 9973L);
                }
                sign = -sign;
            }
        }
        known.put(free, all);
        return all;
    }

    private static long determinant(long[][] m) {
        return determinant(m, 0, (1 << m.length) - 1, new HashMap<>());
    }

    /** Sums of all items of a span, null if it fails; by Cramer's rule. */
    private Map<Item, Long> spanSums(int i, int j, Set<Item> having, Map<List<Integer>, Map<Item, Long>> known) {
        List<Integer> span = List.of(i, j);
        if (known.containsKey(span)) {
            return known.get(span);
        }
        List<Item> unknown = new ArrayList<>();
        for (int label = 0; label < 12; label++) {
            if (having.contains(new Item(label, i, j))) {
                unknown.add(new Item(label, i, j));
            }
        }
        int size = unknown.size();
        long[][] m = new long[size][size];
        long[] rest = new long[size];
        boolean fails = false;
        for (int row = 0; row < size; row++) {
            m[row][row] += 1;
            for (Case one : allCases().get(unknown.get(row))) {
                if (!full(one, having)) {
                    continue;
                }
                long product = one.rule.cost;
                Item same = null;
                for (Item part : Arrays.asList(one.left, one.right)) {
                    if (part == null) {
                        continue;
                    }
                    if (part.i == i && part.j == j) {
                        same = part;
                    } else {
                        Map<Item, Long> other = spanSums(part.i, part.j, having, known);
                        if (other == null) {
                            fails = true;
                        } else {
                            product = product * other.get(part) % 9973;
                        }
                    }
                }
                if (same == null) {
                    rest[row] += product;
                } else {
                    m[row][unknown.indexOf(same)] -= product;
                }
            }
        }
        for (long[] row : m) {
            for (int k = 0; k < size; k++) {
                row[k] = Math.floorMod(row[k], 9973L);
            }
        }
        long whole = determinant(m);
        Map<Item, Long> sums = null;
        if (!fails && whole != 0) {
            sums = new HashMap<>();
            long inverse = BigInteger.valueOf(whole).modInverse(BigInteger.valueOf(9973)).longValue();
            for (int column = 0; column < size; column++) {
                long[][] put = new long[size][];
                for (int row = 0; row < size; row++) {
                    put[row] = m[row].clone();
                    put[row][column] = rest[row] % 9973;
                }
                sums.put(unknown.get(column), determinant(put) * inverse % 9973);
            }
        }
        known.put(span, sums);
        return sums;
    }

    int sum(int label, int i, int j) {
        if (noItem(label, i, j)) {
            return REFUSED;
        }
        Item item = new Item(label, i, j);
        Set<Item> having = having(sentence, rules);
        if (!having.contains(item)) {
            return 0;
        }
        Map<Item, Long> sums = spanSums(i, j, having, new HashMap<>());
        return sums == null ? -1 : sums.get(item).intValue();
    }

    // ---- values ----

    private int values(Map<Item, Integer> values) {
        Map<Item, List<Case>> all = allCases();
        for (Item item : all.keySet()) {
            values.put(item, zero);
        }
        for (int round = 1; round <= 100; round++) {
            Map<Item, Integer> next = new HashMap<>();
            for (Item item : all.keySet()) {
                int value = zero;
                for (Case one : all.get(item)) {
                    int first = one.left == null ? this.one : values.get(one.left);
                    int product = table(1, one.rule.element, first);
                    if (one.rule.right != -1) {
                        product = table(1, product, one.right == null ? this.one : values.get(one.right));
                    }
                    value = table(0, value, product);
                }
                next.put(item, value);
            }
            if (next.equals(values)) {
                return round;
            }
            values.putAll(next);
        }
        return -6;
    }

    int value(int label, int i, int j) {
        if (noItem(label, i, j)) {
            return REFUSED;
        }
        Map<Item, Integer> values = new HashMap<>();
        return values(values) == -6 ? -6 : values.get(new Item(label, i, j));
    }

    int rounds() {
        return values(new HashMap<>());
    }

    private int p(int a, int b) {
        return table(0, a, b);
    }

    private int t(int a, int b) {
        return table(1, a, b);
    }

    int laws() {
        Map<Item, Integer> values = new HashMap<>();
        if (values(values) == -6) {
            return -6;
        }
        Set<Integer> met = new HashSet<>(values.values());
        met.add(zero);
        met.add(one);
        rules.stream().filter(rule -> !rule.out).forEach(rule -> met.add(rule.element));
        boolean[] holds = new boolean[9];
        Arrays.fill(holds, true);
        for (int a : met) {
            for (int b : met) {
                for (int c : met) {
                    holds[0] &= p(a, b) == p(b, a);
                    holds[1] &= p(p(a, b), c) == p(a, p(b, c));
                    holds[2] &= p(a, zero) == a;
                    holds[3] &= t(t(a, b), c) == t(a, t(b, c));
                    holds[4] &= t(one, a) == a && t(a, one) == a;
                    holds[5] &= t(zero, a) == zero && t(a, zero) == zero;
                    holds[6] &= t(a, p(b, c)) == p(t(a, b), t(a, c));
                    holds[7] &= t(p(a, b), c) == p(t(a, c), t(b, c));
                    holds[8] &= p(a, a) == a;
                }
            }
        }
        int bits = 0;
        for (int law = 0; law < 9; law++) {
            bits |= holds[law] ? 1 << law : 0;
        }
        return bits;
    }

    int cases(int label, int i, int j, int what) {
        if (noItem(label, i, j) || what < 0 || what > 2) {
            return REFUSED;
        }
        Item item = new Item(label, i, j);
        Map<Item, List<Case>> all = allCases();
        Set<Item> having = having(sentence, rules);
        if (what == 0) {
            return all.get(item).size();
        }
        if (what == 1) {
            return (int) all.get(item).stream().filter(one -> full(one, having)).count();
        }
        int number = 0;
        for (List<Case> some : all.values()) {
            for (Case one : some) {
                if (full(one, having) && (item.equals(one.left) || item.equals(one.right))) {
                    number++;
                }
            }
        }
        return number;
    }

    int settled(int k, int what) {
        if (k < 0 || what < 0 || what > 3) {
            return REFUSED;
        }
        Map<Item, Integer> least = leasts(sentence, rules);
        List<Item> all = new ArrayList<>(least.keySet());
        all.sort(Comparator.<Item>comparingInt(least::get).thenComparingInt(item -> item.j - item.i)
            .thenComparingInt(item -> item.i).thenComparingInt(item -> item.label));
        if (k >= all.size()) {
            return -1;
        }
        Item item = all.get(k);
        return new int[] {item.label, item.i, item.j, least.get(item)}[what];
    }

    // ---- trees ----

    /** All trees of an item that cost just so much. */
    private List<Tree> trees(Item item, int cost) {
        Map<Integer, List<Tree>> byCost = treesByCost.computeIfAbsent(item, absent -> new TreeMap<>());
        List<Tree> known = byCost.get(cost);
        if (known != null) {
            return known;
        }
        List<Tree> all = new ArrayList<>();
        for (Case one : allCases().get(item)) {
            int rest = cost - one.rule.cost;
            if (rest < 0 || budget < 0) {
                continue;
            }
            if (one.left == null && one.right == null) {
                if (rest == 0) {
                    all.add(new Tree(item, one, null, null, cost));
                }
            } else if (one.left == null) {
                trees(one.right, rest).forEach(right -> all.add(new Tree(item, one, null, right, cost)));
            } else if (one.right == null) {
                trees(one.left, rest).forEach(left -> all.add(new Tree(item, one, left, null, cost)));
            } else {
                for (int first = 1; first < rest; first++) {
                    for (Tree left : trees(one.left, first)) {
                        for (Tree right : trees(one.right, rest - first)) {
                            all.add(new Tree(item, one, left, right, cost));
                        }
                    }
                }
            }
        }
        budget -= all.size();
        byCost.put(cost, all);
        return all;
    }

    /** The k-th tree in order; null if there are not so many. Sets budget below 0 if it is too dear. */
    private Tree tree(Item item, int k) {
        treesByCost = new HashMap<>();
        budget = 60000;
        BigInteger many = waysOf(item, having(sentence, rules), new HashMap<>(), new HashSet<>());
        if (many.signum() >= 0 && many.compareTo(BigInteger.valueOf(k)) <= 0) {
            return null;
        }
        int ahead = 0;
        for (int cost = 1; cost <= 1000 && budget >= 0; cost++) {
            List<Tree> all = new ArrayList<>(trees(item, cost));
            if (budget >= 0 && k - ahead < all.size()) {
                all.sort(Tree::compareShape);
                return all.get(k - ahead);
            }
            ahead += all.size();
        }
        budget = -1;
        return null;
    }

    private boolean noPlace(int k) {
        return k < 0 || k > 15;
    }

    private interface Asked {
        long of(Tree tree);
    }

    private long ofTree(Item item, int k, Asked asked) {
        Tree tree = tree(item, k);
        if (tree == null) {
            return budget < 0 ? UNKNOWN : -1;
        }
        return asked.of(tree);
    }

    long best(int label, int i, int j, int k) {
        return noItem(label, i, j) || noPlace(k) ? REFUSED : ofTree(new Item(label, i, j), k, Tree::cost);
    }

    long size(int label, int i, int j, int k, int what) {
        if (noItem(label, i, j) || noPlace(k) || what < 0 || what > 1) {
            return REFUSED;
        }
        return ofTree(new Item(label, i, j), k, tree -> what == 0 ? tree.steps().size() : tree.depth());
    }

    long step(int label, int i, int j, int k, int n) {
        if (noItem(label, i, j) || noPlace(k) || n < 0) {
            return REFUSED;
        }
        return ofTree(new Item(label, i, j), k, tree -> n < tree.steps().size() ? tree.steps().get(n)[0] : -1);
    }

    long bounds(int k, int n, int what) {
        if (noPlace(k) || n < 0 || what < 0 || what > 2) {
            return REFUSED;
        }
        if (rules.isEmpty() || sentence.isEmpty()) {
            return -1;
        }
        Item whole = new Item(rules.get(0).head, 0, sentence.length());
        return ofTree(whole, k, tree -> n < tree.steps().size() ? tree.steps().get(n)[1 + what] : -1);
    }

    /** UNKNOWN leaves what is told as it is: the caller goes no further then. */
    long tell(int label, int i, int j, int k) {
        if (noItem(label, i, j) || noPlace(k)) {
            return REFUSED;
        }
        return ofTree(new Item(label, i, j), k, tree -> {
            out = tree.text();
            return out.length();
        });
    }

    int octet(int i) {
        return i < 0 || i >= out.length() ? -1 : out.charAt(i);
    }

    private BigInteger many(Item item, int cost, Map<Item, Map<Integer, BigInteger>> known) {
        Map<Integer, BigInteger> row = known.computeIfAbsent(item, absent -> new HashMap<>());
        if (row.containsKey(cost)) {
            return row.get(cost);
        }
        BigInteger all = BigInteger.ZERO;
        for (Case one : allCases().get(item)) {
            int rest = cost - one.rule.cost;
            if (one.left == null && one.right == null) {
                all = all.add(rest == 0 ? BigInteger.ONE : BigInteger.ZERO);
            } else if (rest > 0 && (one.left == null || one.right == null)) {
                all = all.add(many(one.left == null ? one.right : one.left, rest, known));
            } else {
                for (int first = 1; first < rest; first++) {
                    BigInteger left = many(one.left, first, known);
                    if (left.signum() > 0) {
                        all = all.add(left.multiply(many(one.right, rest - first, known)));
                    }
                }
            }
        }
        row.put(cost, all);
        return all;
    }

    long cheap(int label, int i, int j, int c) {
        if (noItem(label, i, j) || c < 0 || c > 300) {
            return REFUSED;
        }
        Map<Item, Map<Integer, BigInteger>> known = new HashMap<>();
        BigInteger all = BigInteger.ZERO;
        for (int cost = 1; cost <= c; cost++) {
            all = all.add(many(new Item(label, i, j), cost, known));
        }
        return told(all);
    }

    long alike(int label, int i, int j, int k, int l) {
        if (noItem(label, i, j) || noPlace(k) || noPlace(l)) {
            return REFUSED;
        }
        Item item = new Item(label, i, j);
        return ofTree(item, k, tree -> ofTree(item, l, other -> {
            List<int[]> steps = tree.steps();
            List<int[]> others = other.steps();
            int same = 0;
            while (same < steps.size() && same < others.size() && Arrays.equals(steps.get(same), others.get(same))) {
                same++;
            }
            return same;
        }));
    }

    // ---- the start, the grammar ----

    private int wholeLeast(String text, List<Rule> used) {
        if (rules.isEmpty() || text.isEmpty()) {
            return -1;
        }
        return leasts(text, used).getOrDefault(new Item(rules.get(0).head, 0, text.length()), -1);
    }

    int without(int number) {
        if (noRule(number)) {
            return REFUSED;
        }
        Rule left = rules.get(number);
        return wholeLeast(sentence, without(rules, rule -> rule == left));
    }

    int heads() {
        int bits = 0;
        for (int m = 1; m <= sentence.length() && !rules.isEmpty(); m++) {
            bits |= can(rules.get(0).head, 0, m) == 1 ? 1 << m : 0;
        }
        return bits;
    }

    /** Each change, in order of places and letters: place, letter, cost. */
    private List<int[]> changes() {
        List<int[]> all = new ArrayList<>();
        for (int at = 0; at < sentence.length(); at++) {
            for (char letter = 'a'; letter <= 'z'; letter++) {
                if (letter != sentence.charAt(at)) {
                    String changed = sentence.substring(0, at) + letter + sentence.substring(at + 1);
                    int cost = wholeLeast(changed, rules);
                    caseCache.clear();
                    if (cost >= 0) {
                        all.add(new int[] {at, letter - 'a', cost});
                    }
                }
            }
        }
        return all;
    }

    int mends() {
        return changes().size();
    }

    int mend(int what) {
        if (what < 0 || what > 2) {
            return REFUSED;
        }
        int[] found = null;
        for (int[] change : changes()) {
            if (found == null || change[2] < found[2]) {
                found = change;
            }
        }
        return found == null ? -1 : found[what];
    }

    private boolean reaches(int from, int to, Set<Integer> been) {
        for (Rule rule : rules) {
            if (!rule.out && rule.right == -1 && rule.head == from && rule.left < 100) {
                if (rule.left == to || been.add(rule.left) && reaches(rule.left, to, been)) {
                    return true;
                }
            }
        }
        return false;
    }

    int rings() {
        int bits = 0;
        for (int label = 0; label < 12; label++) {
            bits |= reaches(label, label, new HashSet<>()) ? 1 << label : 0;
        }
        return bits;
    }

    /** For each rule: which labels have a tree, over whatever letters, that has it in it. */
    long alive() {
        long bits = 0;
        Set<Integer> having = new HashSet<>();
        for (int turn = 0; turn < 40; turn++) {
            for (Rule rule : rules) {
                if (!rule.out && grows(rule.left, having) && (rule.right == -1 || grows(rule.right, having))) {
                    having.add(rule.head);
                }
            }
        }
        for (int number = 0; number < rules.size(); number++) {
            Set<Integer> with = new HashSet<>();
            for (int turn = 0; turn < 40; turn++) {
                for (Rule rule : rules) {
                    boolean in = rule == rules.get(number) || with.contains(rule.left) || with.contains(rule.right);
                    boolean grows = grows(rule.left, having) && (rule.right == -1 || grows(rule.right, having));
                    if (!rule.out && in && grows) {
                        with.add(rule.head);
                    }
                }
            }
            bits |= with.contains(rules.get(0).head) ? 1L << number : 0;
        }
        return bits;
    }

    private static boolean grows(int part, Set<Integer> having) {
        return part >= 100 || having.contains(part);
    }
}
