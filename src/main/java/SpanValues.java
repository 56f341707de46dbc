import java.util.Arrays;

/**
 * Trees over spans of a sentence by rules that cost. README.md says how it is used;
 * the numbered promises are those of the project's document.
 */
public final class SpanValues {
    public static final int NONE = -1;
    public static final int ENDLESS = -5;
    public static final int TOO_GREAT = -3;
    public static final int UNSETTLED = -6;

    private static final int REFUSED = -2;
    private static final int FAULTY = -4;

    private static final int TAPE_ROOM = 1000;
    private static final int FED_BYTES = 20;
    private static final int LABELS = 12;
    private static final int MOST_RULES = 40;
    private static final int MOST_COST = 99;
    private static final int LEAST_BASE = 2;
    private static final int MOST_BASE = 5;
    private static final int FIRST_LETTER = 100;
    private static final int ALPHABET = 26;
    private static final int MOST_LETTERS = 8;
    private static final int MOST_SPANS = 36;
    private static final int MOST_ITEMS = MOST_SPANS * LABELS;
    /** A rule of two parts has the most cases: one for each span and m, 84 of them. */
    private static final int MOST_CASES = MOST_RULES * 84;
    private static final int RANKED = 16;
    private static final int MOST_TREES = MOST_ITEMS * RANKED;
    /** No more than 360 are met: 15 chains of 12 labels, and 15 times round a ring of 12. */
    private static final int MOST_STEPS = 512;
    private static final int OUT_ROOM = 2048;
    private static final int MOST_CHEAP = 300;
    private static final int MODULUS = 9973;
    private static final int MOST_ROUNDS = 100;
    private static final long MOST_TOLD = 1000000000000000L;
    private static final long BEYOND = MOST_TOLD + 1;

    private final int[] tape;
    private int tapeLength;
    private final int[] out;
    private int outLength;
    private final Reader reader;
    private final Grammar rules;
    private final Chart chart;
    private final Costs costs;
    private final Facts facts;
    private final Sums sums;
    private final Values values;
    private final Forest forest;
    private final Walk walk;
    private final Walk otherWalk;
    private final Tally tally;
    private final Mender mender;

    public SpanValues() {
        tape = new int[TAPE_ROOM];
        out = new int[OUT_ROOM];
        reader = new Reader(tape);
        rules = new Grammar();
        chart = new Chart(rules);
        costs = new Costs(rules, chart);
        facts = new Facts(rules, chart, costs);
        sums = new Sums(rules, chart, costs);
        values = new Values(rules, chart);
        forest = new Forest(rules, chart, costs);
        walk = new Walk(rules, chart, forest);
        otherWalk = new Walk(rules, chart, forest);
        tally = new Tally(rules, chart, costs);
        mender = new Mender(rules, chart, costs);
    }

    // ---- the tape, the grammar, the sentence ----

    public int feed(int a, int b, int c, int d, int e) {
        if (tapeLength + FED_BYTES > TAPE_ROOM) {
            return NONE;
        }
        putFour(a);
        putFour(b);
        putFour(c);
        putFour(d);
        putFour(e);
        return tapeLength;
    }

    private void putFour(int number) {
        for (int shift = 24; shift >= 0 && tapeLength < TAPE_ROOM; shift -= 8) {
            tape[tapeLength] = (number >>> shift) & 255;
            tapeLength++;
        }
    }

    public int end(int n) {
        if (n < 0 || n > tapeLength) {
            return NONE;
        }
        tapeLength = n;
        return n;
    }

    public int grammar() {
        reader.read(tapeLength);
        tapeLength = 0;
        if (reader.faultNumber != 0) {
            return FAULTY;
        }
        rules.take(reader.draft);
        forgetCases();
        return rules.ruleCount;
    }

    public int fault(int what) {
        switch (what) {
            case 0:
                return reader.faultNumber;
            case 1:
                return reader.faultPlace;
            default:
                return NONE;
        }
    }

    public int say() {
        int length = tapeLength;
        tapeLength = 0;
        if (length > MOST_LETTERS || !lettersAlone(length)) {
            return FAULTY;
        }
        chart.hear(tape, length);
        forgetCases();
        return length;
    }

    private boolean lettersAlone(int length) {
        for (int at = 0; at < length; at++) {
            if (!Reader.isSmall(tape[at])) {
                return false;
            }
        }
        return true;
    }

    public int count(int what) {
        switch (what) {
            case 0:
                return rules.ruleCount;
            case 1:
                return chart.letterCount;
            case 2:
                return rules.start();
            case 3:
                return rules.base;
            case 4:
                return rules.zero;
            case 5:
                return rules.one;
            case 6:
                return costs.itemsWithTrees();
            case 7:
                return tapeLength;
            case 8:
                return outLength;
            case 9:
                return rules.rulesIn();
            default:
                return NONE;
        }
    }

    // ---- rules and the table ----

    public int rule(int rule, int what) {
        if (!rules.knows(rule)) {
            return REFUSED;
        }
        switch (what) {
            case 0:
                return rules.head[rule];
            case 1:
                return rules.left[rule];
            case 2:
                return rules.right[rule];
            case 3:
                return rules.price[rule];
            case 4:
                return rules.element[rule];
            case 5:
                return rules.isOut[rule] ? 1 : 0;
            default:
                return REFUSED;
        }
    }

    public int table(int what, int a, int b) {
        if (!rules.isElement(a) || !rules.isElement(b)) {
            return REFUSED;
        }
        switch (what) {
            case 0:
                return rules.plus(a, b);
            case 1:
                return rules.times(a, b);
            default:
                return REFUSED;
        }
    }

    public int drops(int rule, int on) {
        if (!rules.knows(rule) || on < 0 || on > 1) {
            return REFUSED;
        }
        boolean goesOut = on == 1;
        if (rules.isOut[rule] == goesOut) {
            return 0;
        }
        rules.isOut[rule] = goesOut;
        forgetCases();
        return 1;
    }

    public int prices(int rule, int cost) {
        if (!rules.knows(rule) || cost < 1 || cost > MOST_COST) {
            return REFUSED;
        }
        int before = rules.price[rule];
        if (before != cost) {
            rules.price[rule] = cost;
            forgetCosts();
        }
        return before;
    }

    public int elements(int rule, int element) {
        if (!rules.knows(rule) || !rules.isElement(element)) {
            return REFUSED;
        }
        int before = rules.element[rule];
        if (before != element) {
            rules.element[rule] = element;
            values.forget();
        }
        return before;
    }

    private void forgetCases() {
        chart.forget();
        facts.forget();
        values.forget();
        forgetCosts();
    }

    private void forgetCosts() {
        costs.forget();
        sums.forget();
        forest.forget();
        tally.forget();
        mender.forget();
    }

    // ---- what is told of one item ----

    /** The item's number, or REFUSED. */
    private int itemOf(int label, int i, int j) {
        if (label < 0 || label >= LABELS || i < 0 || j <= i || j > chart.letterCount) {
            return REFUSED;
        }
        chart.build();
        return chart.itemAt(label, i, j);
    }

    public int can(int label, int i, int j) {
        int item = itemOf(label, i, j);
        if (item < 0) {
            return REFUSED;
        }
        return costs.lowestOf(item) > 0 ? 1 : 0;
    }

    public int least(int label, int i, int j) {
        int item = itemOf(label, i, j);
        return item < 0 ? REFUSED : costs.lowestOf(item);
    }

    public long ways(int label, int i, int j) {
        int item = itemOf(label, i, j);
        if (item < 0) {
            return REFUSED;
        }
        return tellNumber(facts.treesOf(item));
    }

    private static long tellNumber(long number) {
        return number > MOST_TOLD ? TOO_GREAT : number;
    }

    public int dearest(int label, int i, int j) {
        int item = itemOf(label, i, j);
        return item < 0 ? REFUSED : costs.mildestOf(item);
    }

    public long used(int label, int i, int j, int what) {
        int item = itemOf(label, i, j);
        if (item < 0 || what < 0 || what > 1) {
            return REFUSED;
        }
        return what == 0 ? facts.inSome(item) : facts.inEach(item);
    }

    public int sum(int label, int i, int j) {
        int item = itemOf(label, i, j);
        return item < 0 ? REFUSED : sums.sumOf(item);
    }

    public int value(int label, int i, int j) {
        int item = itemOf(label, i, j);
        return item < 0 ? REFUSED : values.valueOf(item);
    }

    public int rounds() {
        return values.roundsTaken();
    }

    public int laws() {
        return values.lawsKept();
    }

    public int cases(int label, int i, int j, int what) {
        int item = itemOf(label, i, j);
        if (item < 0) {
            return REFUSED;
        }
        switch (what) {
            case 0:
                return chart.caseEnd(item) - chart.caseStart(item);
            case 1:
                return costs.fullCases(item);
            case 2:
                return costs.casesAround(item);
            default:
                return REFUSED;
        }
    }

    public int settled(int k, int what) {
        if (k < 0 || what < 0 || what > 3) {
            return REFUSED;
        }
        int item = costs.itemInOrder(k);
        if (item < 0) {
            return NONE;
        }
        switch (what) {
            case 0:
                return item % LABELS;
            case 1:
                return chart.beginOf(item);
            case 2:
                return chart.finishOf(item);
            default:
                return costs.lowestOf(item);
        }
    }

    // ---- trees in their order ----

    private static boolean isPlace(int k) {
        return k >= 0 && k < RANKED;
    }

    public int best(int label, int i, int j, int k) {
        int item = itemOf(label, i, j);
        if (item < 0 || !isPlace(k)) {
            return REFUSED;
        }
        int tree = forest.treeOf(item, k);
        return tree < 0 ? NONE : forest.cost[tree];
    }

    public int size(int label, int i, int j, int k, int what) {
        int item = itemOf(label, i, j);
        if (item < 0 || !isPlace(k) || what < 0 || what > 1) {
            return REFUSED;
        }
        int tree = forest.treeOf(item, k);
        if (tree < 0) {
            return NONE;
        }
        walk.follow(tree);
        return what == 0 ? walk.stepCount : walk.deepest;
    }

    public int step(int label, int i, int j, int k, int n) {
        int item = itemOf(label, i, j);
        if (item < 0 || !isPlace(k) || n < 0) {
            return REFUSED;
        }
        int tree = forest.treeOf(item, k);
        if (tree < 0) {
            return NONE;
        }
        walk.follow(tree);
        return walk.ruleOf(n);
    }

    public int bounds(int k, int n, int what) {
        if (!isPlace(k) || n < 0 || what < 0 || what > 2) {
            return REFUSED;
        }
        int item = wholeItem();
        int tree = item < 0 ? NONE : forest.treeOf(item, k);
        if (tree < 0) {
            return NONE;
        }
        walk.follow(tree);
        if (n >= walk.stepCount) {
            return NONE;
        }
        switch (what) {
            case 0:
                return walk.beginOf(n);
            case 1:
                return walk.middleOf(n);
            default:
                return walk.finishOf(n);
        }
    }

    public int tell(int label, int i, int j, int k) {
        int item = itemOf(label, i, j);
        if (item < 0 || !isPlace(k)) {
            return REFUSED;
        }
        int tree = forest.treeOf(item, k);
        if (tree < 0) {
            return NONE;
        }
        outLength = walk.write(tree, out);
        return outLength;
    }

    public int octet(int i) {
        return i < 0 || i >= outLength ? NONE : out[i];
    }

    public long cheap(int label, int i, int j, int c) {
        int item = itemOf(label, i, j);
        if (item < 0 || c < 0 || c > MOST_CHEAP) {
            return REFUSED;
        }
        return tellNumber(tally.upTo(item, c));
    }

    public int alike(int label, int i, int j, int k, int l) {
        int item = itemOf(label, i, j);
        if (item < 0 || !isPlace(k) || !isPlace(l)) {
            return REFUSED;
        }
        int tree = forest.treeOf(item, k);
        int other = forest.treeOf(item, l);
        if (tree < 0 || other < 0) {
            return NONE;
        }
        walk.follow(tree);
        otherWalk.follow(other);
        return walk.alikeWith(otherWalk);
    }

    // ---- what is told of the start, and of the grammar ----

    /** START over the whole sentence, or NONE without rules or letters. */
    private int wholeItem() {
        return rules.ruleCount == 0 ? NONE : itemOf(rules.start(), 0, chart.letterCount);
    }

    public int without(int rule) {
        if (!rules.knows(rule)) {
            return REFUSED;
        }
        int item = wholeItem();
        return item < 0 ? NONE : costs.lowestWithout(item, rule);
    }

    public int heads() {
        int bits = 0;
        for (int m = 1; m <= chart.letterCount && rules.ruleCount > 0; m++) {
            int item = itemOf(rules.start(), 0, m);
            if (item >= 0 && costs.lowestOf(item) > 0) {
                bits |= 1 << m;
            }
        }
        return bits;
    }

    public int mends() {
        mender.prepare(wholeItem());
        return mender.changes;
    }

    public int mend(int what) {
        if (what < 0 || what > 2) {
            return REFUSED;
        }
        mender.prepare(wholeItem());
        switch (what) {
            case 0:
                return mender.place;
            case 1:
                return mender.letter;
            default:
                return mender.lowest;
        }
    }

    public int rings() {
        return rules.labelsOnRings();
    }

    public long alive() {
        return rules.rulesAlive();
    }

    /** The rules and the table. A part is a label 0 .. 11, or FIRST_LETTER and 0 .. 25. */
    private static final class Grammar {
        int ruleCount;
        final int[] head;
        final int[] left;
        final int[] right;
        final int[] price;
        final int[] element;
        final boolean[] isOut;
        int base;
        int zero;
        int one;
        final int[] plusRow;
        final int[] timesRow;
        private final int[] reach;

        Grammar() {
            head = new int[MOST_RULES];
            left = new int[MOST_RULES];
            right = new int[MOST_RULES];
            price = new int[MOST_RULES];
            element = new int[MOST_RULES];
            isOut = new boolean[MOST_RULES];
            plusRow = new int[MOST_BASE * MOST_BASE];
            timesRow = new int[MOST_BASE * MOST_BASE];
            reach = new int[LABELS];
            clear();
        }

        void clear() {
            ruleCount = 0;
            base = LEAST_BASE;
            zero = 0;
            one = 1;
            for (int at = 0; at < LEAST_BASE * LEAST_BASE; at++) {
                plusRow[at] = at == 0 ? 0 : 1;
                timesRow[at] = at == 3 ? 1 : 0;
            }
        }

        void take(Grammar other) {
            ruleCount = other.ruleCount;
            base = other.base;
            zero = other.zero;
            one = other.one;
            for (int rule = 0; rule < MOST_RULES; rule++) {
                head[rule] = other.head[rule];
                left[rule] = other.left[rule];
                right[rule] = other.right[rule];
                price[rule] = other.price[rule];
                element[rule] = other.element[rule];
                isOut[rule] = false;
            }
            for (int at = 0; at < MOST_BASE * MOST_BASE; at++) {
                plusRow[at] = other.plusRow[at];
                timesRow[at] = other.timesRow[at];
            }
        }

        boolean knows(int rule) {
            return rule >= 0 && rule < ruleCount;
        }

        boolean isElement(int element) {
            return element >= 0 && element < base;
        }

        int plus(int a, int b) {
            return plusRow[a * base + b];
        }

        int times(int a, int b) {
            return timesRow[a * base + b];
        }

        int start() {
            return ruleCount == 0 ? NONE : head[0];
        }

        int rulesIn() {
            int number = 0;
            for (int rule = 0; rule < ruleCount; rule++) {
                if (!isOut[rule]) {
                    number++;
                }
            }
            return number;
        }

        boolean isUnary(int rule) {
            return right[rule] == NONE && left[rule] < FIRST_LETTER;
        }

        int labelsOnRings() {
            for (int label = 0; label < LABELS; label++) {
                reach[label] = 0;
            }
            for (int rule = 0; rule < ruleCount; rule++) {
                if (!isOut[rule] && isUnary(rule)) {
                    reach[head[rule]] |= 1 << left[rule];
                }
            }
            for (int via = 0; via < LABELS; via++) {
                for (int label = 0; label < LABELS; label++) {
                    if ((reach[label] >> via & 1) == 1) {
                        reach[label] |= reach[via];
                    }
                }
            }
            int bits = 0;
            for (int label = 0; label < LABELS; label++) {
                bits |= reach[label] & (1 << label);
            }
            return bits;
        }

        long rulesAlive() {
            if (ruleCount == 0) {
                return 0;
            }
            int fruitful = fruitfulLabels();
            int met = 1 << start();
            long bits = 0;
            // Each turn but the last meets a new label, so there are no more than this.
            for (int turn = 0; turn <= LABELS; turn++) {
                for (int rule = 0; rule < ruleCount; rule++) {
                    if (!isOut[rule] && (met >> head[rule] & 1) == 1 && partsWithin(rule, fruitful)) {
                        bits |= 1L << rule;
                        met |= labelBit(left[rule]) | labelBit(right[rule]);
                    }
                }
            }
            return bits;
        }

        /** Labels that have trees over some letters, whatever these are. */
        private int fruitfulLabels() {
            int fruitful = 0;
            for (int turn = 0; turn <= LABELS; turn++) {
                for (int rule = 0; rule < ruleCount; rule++) {
                    if (!isOut[rule] && partsWithin(rule, fruitful)) {
                        fruitful |= 1 << head[rule];
                    }
                }
            }
            return fruitful;
        }

        private boolean partsWithin(int rule, int labels) {
            int needed = labelBit(left[rule]) | labelBit(right[rule]);
            return (needed & labels) == needed;
        }

        private static int labelBit(int part) {
            return part >= 0 && part < FIRST_LETTER ? 1 << part : 0;
        }
    }

    /** Reads the tape into a draft; the first fault stops it. */
    private static final class Reader {
        private static final int AT_END = 0;
        private static final int WORD = 1;
        private static final int NUMBER = 2;
        private static final int SIGN = 3;
        private static final int CANT_STAND = 1;
        private static final int OUT_OF_BOUNDS = 2;
        private static final int RULE_TOO_MANY = 3;
        /** Above every bound, so that a long number can't come round to a small one. */
        private static final int HUGE = 10000;

        private final int[] bytes;
        final Grammar draft;
        int faultNumber;
        int faultPlace;
        private int length;
        private int kind;
        private int first;
        private int behind;
        private int number;

        Reader(int[] tape) {
            bytes = tape;
            draft = new Grammar();
            faultNumber = 0;
            faultPlace = NONE;
        }

        void read(int tapeLength) {
            length = tapeLength;
            behind = 0;
            faultNumber = 0;
            faultPlace = NONE;
            draft.clear();
            advance();
            for (int line = 0; line <= length && kind != AT_END && faultNumber == 0; line++) {
                if (isWord("rule")) {
                    readRule();
                } else if (line == 0 && isWord("table")) {
                    readTable();
                } else {
                    fail(CANT_STAND);
                }
                passSign(';');
            }
        }

        private void readTable() {
            advance();
            draft.base = readNumber(LEAST_BASE, MOST_BASE);
            passWord("zero");
            draft.zero = readNumber(0, draft.base - 1);
            passWord("one");
            draft.one = readNumber(0, draft.base - 1);
            passWord("plus");
            readRow(draft.plusRow);
            passWord("times");
            readRow(draft.timesRow);
        }

        private void readRow(int[] row) {
            int most = Math.min(draft.base * draft.base, row.length);
            for (int at = 0; at < most && faultNumber == 0; at++) {
                row[at] = readNumber(0, draft.base - 1);
            }
        }

        private void readRule() {
            int rule = draft.ruleCount;
            if (rule >= MOST_RULES) {
                fail(RULE_TOO_MANY);
                return;
            }
            advance();
            draft.head[rule] = readPart(true);
            passSign('=');
            draft.left[rule] = readPart(false);
            draft.right[rule] = isLabel() || isLetter() ? readPart(false) : NONE;
            draft.price[rule] = 1;
            if (isWord("cost")) {
                advance();
                draft.price[rule] = readNumber(1, MOST_COST);
            }
            draft.element[rule] = draft.one;
            if (isWord("as")) {
                advance();
                draft.element[rule] = readNumber(0, draft.base - 1);
            }
            draft.ruleCount = rule + 1;
        }

        private int readPart(boolean labelAlone) {
            int part = 0;
            if (isLabel()) {
                part = bytes[first] - 'A';
            } else if (isLetter() && !labelAlone) {
                part = FIRST_LETTER + bytes[first] - 'a';
            } else {
                fail(CANT_STAND);
            }
            advance();
            return part;
        }

        private int readNumber(int low, int high) {
            if (kind != NUMBER) {
                fail(CANT_STAND);
            } else if (number < low || number > high) {
                fail(OUT_OF_BOUNDS);
            }
            int told = faultNumber == 0 ? number : 0;
            advance();
            return told;
        }

        private void passWord(String word) {
            if (!isWord(word)) {
                fail(CANT_STAND);
            }
            advance();
        }

        private void passSign(char sign) {
            if (kind != SIGN || bytes[first] != sign) {
                fail(CANT_STAND);
            }
            advance();
        }

        private void fail(int fault) {
            if (faultNumber == 0) {
                faultNumber = fault;
                faultPlace = first;
            }
        }

        private boolean isWord(String word) {
            if (kind != WORD || behind - first != word.length()) {
                return false;
            }
            for (int at = 0; at < word.length(); at++) {
                if (bytes[first + at] != word.charAt(at)) {
                    return false;
                }
            }
            return true;
        }

        private boolean isLabel() {
            return kind == SIGN && bytes[first] >= 'A' && bytes[first] < 'A' + LABELS;
        }

        private boolean isLetter() {
            return kind == WORD && behind - first == 1;
        }

        /** Goes to the next token; the end is one that stays. */
        private void advance() {
            while (behind < length && isBlank(bytes[behind])) {
                behind++;
            }
            first = behind;
            number = 0;
            if (behind >= length) {
                kind = AT_END;
            } else if (isSmall(bytes[behind])) {
                kind = WORD;
                while (behind < length && isSmall(bytes[behind])) {
                    behind++;
                }
            } else if (isDigit(bytes[behind])) {
                kind = NUMBER;
                while (behind < length && isDigit(bytes[behind])) {
                    number = Math.min(number * 10 + bytes[behind] - '0', HUGE);
                    behind++;
                }
            } else {
                kind = SIGN;
                behind++;
            }
        }

        private static boolean isBlank(int sign) {
            return sign == 32 || sign == 10;
        }

        static boolean isSmall(int sign) {
            return sign >= 'a' && sign <= 'z';
        }

        private static boolean isDigit(int sign) {
            return sign >= '0' && sign <= '9';
        }
    }

    /**
     * The sentence, its spans and all cases. Spans are numbered by their length, then by where they
     * begin; an item is its span's number times LABELS, and its label; the cases of an item stand
     * together, in order.
     */
    private static final class Chart {
        /** A part of a case that is a letter, not an item. */
        private static final int A_LETTER = -1;
        private static final int NOT_THERE = -2;
        private static final int EDGES = MOST_LETTERS + 1;

        private final Grammar rules;
        final int[] letters;
        int letterCount;
        int spanCount;
        final int[] begin;
        final int[] finish;
        private final int[] spanAt;
        final int[] rule;
        final int[] middle;
        final int[] left;
        final int[] right;
        final int[] unary;
        int unaryCount;
        private final int[] live;
        private int liveCount;
        private final int[] firstCase;
        int caseCount;
        private boolean built;

        Chart(Grammar rules) {
            this.rules = rules;
            letters = new int[MOST_LETTERS];
            begin = new int[MOST_SPANS];
            finish = new int[MOST_SPANS];
            spanAt = new int[EDGES * EDGES];
            rule = new int[MOST_CASES];
            middle = new int[MOST_CASES];
            left = new int[MOST_CASES];
            right = new int[MOST_CASES];
            unary = new int[MOST_RULES];
            live = new int[MOST_RULES];
            firstCase = new int[MOST_ITEMS + 1];
        }

        void hear(int[] bytes, int length) {
            letterCount = Math.min(Math.min(length, MOST_LETTERS), bytes.length);
            for (int at = 0; at < letterCount; at++) {
                letters[at] = bytes[at] - 'a';
            }
        }

        void forget() {
            built = false;
        }

        void build() {
            if (built) {
                return;
            }
            built = true;
            layOutSpans();
            gatherLive();
            caseCount = 0;
            for (int span = 0; span < spanCount; span++) {
                addSpan(span);
            }
            firstCase[spanCount * LABELS] = caseCount;
        }

        private void layOutSpans() {
            spanCount = 0;
            for (int length = 1; length <= letterCount; length++) {
                for (int i = 0; i + length <= letterCount; i++) {
                    begin[spanCount] = i;
                    finish[spanCount] = i + length;
                    spanAt[i * EDGES + i + length] = spanCount;
                    spanCount++;
                }
            }
        }

        /** The rules that are not out, by label, then as they stand; among them those of one label. */
        private void gatherLive() {
            liveCount = 0;
            unaryCount = 0;
            for (int label = 0; label < LABELS; label++) {
                for (int at = 0; at < rules.ruleCount; at++) {
                    if (rules.head[at] == label && !rules.isOut[at]) {
                        live[liveCount] = at;
                        liveCount++;
                        if (rules.isUnary(at)) {
                            unary[unaryCount] = at;
                            unaryCount++;
                        }
                    }
                }
            }
        }

        private void addSpan(int span) {
            int label = 0;
            for (int at = 0; at < liveCount; at++) {
                int owner = rules.head[live[at]];
                for (; label <= owner; label++) {
                    firstCase[span * LABELS + label] = caseCount;
                }
                addCases(span, live[at]);
            }
            for (; label < LABELS; label++) {
                firstCase[span * LABELS + label] = caseCount;
            }
        }

        private void addCases(int span, int told) {
            int i = begin[span];
            int j = finish[span];
            if (rules.right[told] == NONE) {
                addCase(told, NONE, partOver(rules.left[told], i, j), A_LETTER);
                return;
            }
            for (int m = i + 1; m < j; m++) {
                addCase(told, m, partOver(rules.left[told], i, m), partOver(rules.right[told], m, j));
            }
        }

        private void addCase(int told, int m, int first, int second) {
            if (first == NOT_THERE || second == NOT_THERE || caseCount >= MOST_CASES) {
                return;
            }
            rule[caseCount] = told;
            middle[caseCount] = m;
            left[caseCount] = first;
            right[caseCount] = second;
            caseCount++;
        }

        /** An item, A_LETTER that fits, or NOT_THERE. */
        private int partOver(int part, int i, int j) {
            if (part < FIRST_LETTER) {
                return spanAt[i * EDGES + j] * LABELS + part;
            }
            return j == i + 1 && letters[i] == part - FIRST_LETTER ? A_LETTER : NOT_THERE;
        }

        int itemAt(int label, int i, int j) {
            return spanAt[i * EDGES + j] * LABELS + label;
        }

        int itemCount() {
            return spanCount * LABELS;
        }

        int beginOf(int item) {
            return begin[item / LABELS];
        }

        int finishOf(int item) {
            return finish[item / LABELS];
        }

        int caseStart(int item) {
            return firstCase[item];
        }

        int caseEnd(int item) {
            return firstCase[item + 1];
        }

        /** Whether a case's one part is a label: then its item is of the same span. */
        boolean goesOn(int at) {
            return middle[at] == NONE && left[at] >= 0;
        }

        boolean isInside(int span, int outer) {
            return begin[span] >= begin[outer] && finish[span] <= finish[outer];
        }
    }

    /** Least costs, least dearest rules, and the items with trees in their order. */
    private static final class Costs {
        private final Grammar rules;
        private final Chart chart;
        final int[] low;
        private final int[] mild;
        private final int[] spare;
        private final int[] order;
        private int ordered;
        private boolean lowKnown;
        private boolean mildKnown;
        private boolean orderKnown;

        Costs(Grammar rules, Chart chart) {
            this.rules = rules;
            this.chart = chart;
            low = new int[MOST_ITEMS];
            mild = new int[MOST_ITEMS];
            spare = new int[MOST_ITEMS];
            order = new int[MOST_ITEMS];
        }

        void forget() {
            lowKnown = false;
            mildKnown = false;
            orderKnown = false;
        }

        void prepare() {
            chart.build();
            if (!lowKnown) {
                lowKnown = true;
                fill(low, NONE, true);
            }
        }

        int lowestOf(int item) {
            prepare();
            return low[item];
        }

        int lowestWithout(int item, int rule) {
            chart.build();
            fill(spare, rule, true);
            return spare[item];
        }

        int mildestOf(int item) {
            chart.build();
            if (!mildKnown) {
                mildKnown = true;
                fill(mild, NONE, false);
            }
            return mild[item];
        }

        /** The least over trees of all their costs together, or of the dearest one; NONE without trees. */
        private void fill(int[] row, int leftOut, boolean together) {
            for (int span = 0; span < chart.spanCount; span++) {
                int base = span * LABELS;
                for (int item = base; item < base + LABELS; item++) {
                    row[item] = leastOfCases(row, item, leftOut, together);
                }
                boolean changed = true;
                for (int turn = 0; turn <= LABELS && changed; turn++) {
                    changed = relax(row, base, leftOut, together);
                }
            }
        }

        private int leastOfCases(int[] row, int item, int leftOut, boolean together) {
            int found = NONE;
            for (int at = chart.caseStart(item); at < chart.caseEnd(item); at++) {
                int rule = chart.rule[at];
                if (rule != leftOut && !chart.goesOn(at)) {
                    int first = chart.left[at] < 0 ? 0 : row[chart.left[at]];
                    int second = chart.right[at] < 0 ? 0 : row[chart.right[at]];
                    if (first >= 0 && second >= 0) {
                        found = lesser(found, join(rules.price[rule], join(first, second, together), together));
                    }
                }
            }
            return found;
        }

        private boolean relax(int[] row, int base, int leftOut, boolean together) {
            boolean changed = false;
            for (int at = 0; at < chart.unaryCount; at++) {
                int rule = chart.unary[at];
                int part = row[base + rules.left[rule]];
                int item = base + rules.head[rule];
                if (rule != leftOut && part >= 0) {
                    int found = lesser(row[item], join(rules.price[rule], part, together));
                    changed |= found != row[item];
                    row[item] = found;
                }
            }
            return changed;
        }

        private static int join(int a, int b, boolean together) {
            return together ? a + b : Math.max(a, b);
        }

        static int lesser(int known, int other) {
            return known == NONE || other < known ? other : known;
        }

        boolean has(int item) {
            return low[item] > 0;
        }

        /** Whether all items of a case have trees. */
        boolean isFull(int at) {
            int first = chart.left[at];
            int second = chart.right[at];
            return (first < 0 || has(first)) && (second < 0 || has(second));
        }

        int fullCases(int item) {
            prepare();
            int number = 0;
            for (int at = chart.caseStart(item); at < chart.caseEnd(item); at++) {
                if (isFull(at)) {
                    number++;
                }
            }
            return number;
        }

        int casesAround(int item) {
            prepare();
            int number = 0;
            for (int at = 0; at < chart.caseCount; at++) {
                if ((chart.left[at] == item || chart.right[at] == item) && isFull(at)) {
                    number++;
                }
            }
            return number;
        }

        int itemsWithTrees() {
            prepare();
            int number = 0;
            for (int item = 0; item < chart.itemCount(); item++) {
                if (has(item)) {
                    number++;
                }
            }
            return number;
        }

        /** The k-th item with trees, the least first, or NONE. */
        int itemInOrder(int k) {
            prepare();
            if (!orderKnown) {
                orderKnown = true;
                ordered = 0;
                for (int item = 0; item < chart.itemCount(); item++) {
                    if (has(item)) {
                        putInOrder(item);
                    }
                }
            }
            return k < 0 || k >= ordered ? NONE : order[k];
        }

        /** Items come by length, begin and label, so a like cost goes behind those that are there. */
        private void putInOrder(int item) {
            int from = 0;
            int to = ordered;
            for (int turn = 0; turn < MOST_ITEMS && from < to; turn++) {
                int half = (from + to) / 2;
                if (low[order[half]] <= low[item]) {
                    from = half + 1;
                } else {
                    to = half;
                }
            }
            for (int at = ordered; at > from; at--) {
                order[at] = order[at - 1];
            }
            order[from] = item;
            ordered++;
        }
    }

    /** What does not depend on costs: how many trees, and which rules are in them. */
    private static final class Facts {
        private final Grammar rules;
        private final Chart chart;
        private final Costs costs;
        private final long[] trees;
        private final long[] some;
        private final long[] each;
        private boolean treesKnown;
        private boolean someKnown;
        private boolean eachKnown;

        Facts(Grammar rules, Chart chart, Costs costs) {
            this.rules = rules;
            this.chart = chart;
            this.costs = costs;
            trees = new long[MOST_ITEMS];
            some = new long[MOST_ITEMS];
            each = new long[MOST_ITEMS];
        }

        void forget() {
            treesKnown = false;
            someKnown = false;
            eachKnown = false;
        }

        /** How many trees, ENDLESS, or BEYOND for all that are too many to tell. */
        long treesOf(int item) {
            costs.prepare();
            if (!treesKnown) {
                treesKnown = true;
                for (int span = 0; span < chart.spanCount; span++) {
                    countSpan(span * LABELS);
                }
            }
            return trees[item];
        }

        private void countSpan(int base) {
            for (int item = base; item < base + LABELS; item++) {
                trees[item] = countCases(item);
            }
            int open = labelsThatGoOn(base);
            for (int turn = 0; turn < LABELS && open != 0; turn++) {
                for (int label = 0; label < LABELS; label++) {
                    if ((open >> label & 1) == 1 && (targets(base, label) & open) == 0) {
                        addTargets(base, label);
                        open &= ~(1 << label);
                    }
                }
            }
            // What is still open comes to a ring.
            for (int label = 0; label < LABELS; label++) {
                if ((open >> label & 1) == 1) {
                    trees[base + label] = ENDLESS;
                }
            }
        }

        private long countCases(int item) {
            long number = 0;
            for (int at = chart.caseStart(item); at < chart.caseEnd(item); at++) {
                if (!chart.goesOn(at) && costs.isFull(at)) {
                    long first = chart.left[at] < 0 ? 1 : trees[chart.left[at]];
                    long second = chart.right[at] < 0 ? 1 : trees[chart.right[at]];
                    number = endlessSum(number, endlessProduct(first, second));
                }
            }
            return number;
        }

        private int labelsThatGoOn(int base) {
            int labels = 0;
            for (int label = 0; label < LABELS; label++) {
                if (targets(base, label) != 0) {
                    labels |= 1 << label;
                }
            }
            return labels;
        }

        /** Labels with trees over the span that are the one part of a rule of this label. */
        private int targets(int base, int label) {
            int labels = 0;
            for (int at = 0; at < chart.unaryCount; at++) {
                int rule = chart.unary[at];
                if (rules.head[rule] == label && costs.has(base + rules.left[rule])) {
                    labels |= 1 << rules.left[rule];
                }
            }
            return labels;
        }

        private void addTargets(int base, int label) {
            for (int at = 0; at < chart.unaryCount; at++) {
                int rule = chart.unary[at];
                int part = base + rules.left[rule];
                if (rules.head[rule] == label && costs.has(part)) {
                    trees[base + label] = endlessSum(trees[base + label], trees[part]);
                }
            }
        }

        private static long endlessSum(long a, long b) {
            return a == ENDLESS || b == ENDLESS ? ENDLESS : Tally.add(a, b);
        }

        private static long endlessProduct(long a, long b) {
            return a == ENDLESS || b == ENDLESS ? ENDLESS : Tally.multiply(a, b);
        }

        long inSome(int item) {
            costs.prepare();
            if (!someKnown) {
                someKnown = true;
                gather(some, true);
            }
            return some[item];
        }

        long inEach(int item) {
            costs.prepare();
            if (!eachKnown) {
                eachKnown = true;
                gather(each, false);
            }
            return costs.has(item) ? each[item] : 0;
        }

        /** Rules in some tree: the sets grow from nothing; in each: they shrink from all. */
        private void gather(long[] row, boolean growing) {
            for (int span = 0; span < chart.spanCount; span++) {
                int base = span * LABELS;
                for (int item = base; item < base + LABELS; item++) {
                    row[item] = gatherCases(row, item, growing);
                }
                boolean changed = true;
                for (int turn = 0; turn <= LABELS && changed; turn++) {
                    changed = gatherUnaries(row, base, growing);
                }
            }
        }

        private long gatherCases(long[] row, int item, boolean growing) {
            long found = growing ? 0L : -1L;
            for (int at = chart.caseStart(item); at < chart.caseEnd(item); at++) {
                if (!chart.goesOn(at) && costs.isFull(at)) {
                    long bits = 1L << chart.rule[at];
                    bits |= chart.left[at] < 0 ? 0 : row[chart.left[at]];
                    bits |= chart.right[at] < 0 ? 0 : row[chart.right[at]];
                    found = growing ? found | bits : found & bits;
                }
            }
            return found;
        }

        private boolean gatherUnaries(long[] row, int base, boolean growing) {
            boolean changed = false;
            for (int at = 0; at < chart.unaryCount; at++) {
                int rule = chart.unary[at];
                int item = base + rules.head[rule];
                int part = base + rules.left[rule];
                if (costs.has(part)) {
                    long bits = 1L << rule | row[part];
                    long found = growing ? row[item] | bits : row[item] & bits;
                    changed |= found != row[item];
                    row[item] = found;
                }
            }
            return changed;
        }
    }

    /** Sums modulo a prime: the equations of each span, solved. */
    private static final class Sums {
        private static final int WIDTH = LABELS + 1;

        private final Grammar rules;
        private final Chart chart;
        private final Costs costs;
        private final int[] total;
        private final boolean[] fails;
        private final int[] matrix;
        private final int[] rowOf;
        private boolean known;

        Sums(Grammar rules, Chart chart, Costs costs) {
            this.rules = rules;
            this.chart = chart;
            this.costs = costs;
            total = new int[MOST_ITEMS];
            fails = new boolean[MOST_SPANS];
            matrix = new int[LABELS * WIDTH];
            rowOf = new int[LABELS];
        }

        void forget() {
            known = false;
        }

        int sumOf(int item) {
            costs.prepare();
            if (!known) {
                known = true;
                for (int span = 0; span < chart.spanCount; span++) {
                    solveSpan(span);
                }
            }
            if (!costs.has(item)) {
                return 0;
            }
            return fails[item / LABELS] ? NONE : total[item];
        }

        private void solveSpan(int span) {
            int base = span * LABELS;
            int unknowns = 0;
            for (int label = 0; label < LABELS; label++) {
                rowOf[label] = unknowns;
                if (costs.has(base + label)) {
                    unknowns++;
                }
            }
            Arrays.fill(matrix, 0);
            boolean solved = true;
            for (int label = 0; label < LABELS; label++) {
                if (costs.has(base + label)) {
                    solved &= setEquation(base + label, rowOf[label]);
                }
            }
            solved = solved && eliminate(unknowns);
            fails[span] = !solved;
            for (int label = 0; label < LABELS; label++) {
                boolean told = solved && costs.has(base + label);
                total[base + label] = told ? matrix[rowOf[label] * WIDTH + LABELS] : 0;
            }
        }

        /** False if a case has an item of another span that fails. */
        private boolean setEquation(int item, int row) {
            int start = row * WIDTH;
            matrix[start + row] = 1;
            for (int at = chart.caseStart(item); at < chart.caseEnd(item); at++) {
                int price = rules.price[chart.rule[at]];
                int first = chart.left[at];
                int second = chart.right[at];
                if (!costs.isFull(at)) {
                    continue;
                }
                if (chart.goesOn(at)) {
                    int column = start + rowOf[first % LABELS];
                    matrix[column] = Math.floorMod(matrix[column] - price, MODULUS);
                } else if (first >= 0 && fails[first / LABELS] || second >= 0 && fails[second / LABELS]) {
                    return false;
                } else {
                    int product = price * (first < 0 ? 1 : total[first]) % MODULUS;
                    product = product * (second < 0 ? 1 : total[second]) % MODULUS;
                    matrix[start + LABELS] = (matrix[start + LABELS] + product) % MODULUS;
                }
            }
            return true;
        }

        /** False if there is not just one solution. */
        private boolean eliminate(int unknowns) {
            for (int column = 0; column < unknowns; column++) {
                int pivot = column;
                while (pivot < unknowns && matrix[pivot * WIDTH + column] == 0) {
                    pivot++;
                }
                if (pivot >= unknowns) {
                    return false;
                }
                swapRows(pivot, column);
                scaleRow(column, inverse(matrix[column * WIDTH + column]));
                for (int row = 0; row < unknowns; row++) {
                    if (row != column) {
                        subtractRow(row, column, matrix[row * WIDTH + column]);
                    }
                }
            }
            return true;
        }

        private void swapRows(int one, int other) {
            for (int at = 0; at < WIDTH && one != other; at++) {
                int kept = matrix[one * WIDTH + at];
                matrix[one * WIDTH + at] = matrix[other * WIDTH + at];
                matrix[other * WIDTH + at] = kept;
            }
        }

        private void scaleRow(int row, int factor) {
            for (int at = 0; at < WIDTH && factor != 1; at++) {
                matrix[row * WIDTH + at] = matrix[row * WIDTH + at] * factor % MODULUS;
            }
        }

        private void subtractRow(int row, int taken, int factor) {
            for (int at = 0; at < WIDTH && factor != 0; at++) {
                int less = matrix[taken * WIDTH + at] * factor % MODULUS;
                matrix[row * WIDTH + at] = Math.floorMod(matrix[row * WIDTH + at] - less, MODULUS);
            }
        }

        /** The power MODULUS - 2: the modulus is a prime. */
        private static int inverse(int number) {
            int result = 1;
            int power = number;
            for (int bits = MODULUS - 2; bits > 0; bits >>= 1) {
                if ((bits & 1) == 1) {
                    result = result * power % MODULUS;
                }
                power = power * power % MODULUS;
            }
            return result;
        }
    }

    /** Values by the table, round by round, and the laws it keeps on them. */
    private static final class Values {
        private static final int ALL_LAWS = 511;

        private final Grammar rules;
        private final Chart chart;
        private final int[] now;
        private final int[] next;
        private final boolean[] met;
        private int taken;
        private boolean known;

        Values(Grammar rules, Chart chart) {
            this.rules = rules;
            this.chart = chart;
            now = new int[MOST_ITEMS];
            next = new int[MOST_ITEMS];
            met = new boolean[MOST_BASE];
        }

        void forget() {
            known = false;
        }

        int valueOf(int item) {
            return roundsTaken() == UNSETTLED ? UNSETTLED : now[item];
        }

        int roundsTaken() {
            chart.build();
            if (!known) {
                known = true;
                taken = UNSETTLED;
                Arrays.fill(now, rules.zero);
                for (int round = 1; round <= MOST_ROUNDS && taken == UNSETTLED; round++) {
                    if (!changeAll()) {
                        taken = round;
                    }
                }
            }
            return taken;
        }

        private boolean changeAll() {
            boolean changed = false;
            int items = chart.itemCount();
            for (int item = 0; item < items; item++) {
                next[item] = renewed(item);
                changed |= next[item] != now[item];
            }
            System.arraycopy(next, 0, now, 0, items);
            return changed;
        }

        private int renewed(int item) {
            int found = rules.zero;
            for (int at = chart.caseStart(item); at < chart.caseEnd(item); at++) {
                int product = rules.times(rules.element[chart.rule[at]], partValue(chart.left[at]));
                if (chart.middle[at] != NONE) {
                    product = rules.times(product, partValue(chart.right[at]));
                }
                found = rules.plus(found, product);
            }
            return found;
        }

        private int partValue(int part) {
            return part < 0 ? rules.one : now[part];
        }

        int lawsKept() {
            if (roundsTaken() == UNSETTLED) {
                return UNSETTLED;
            }
            meetAll();
            int laws = ALL_LAWS;
            for (int a = 0; a < rules.base; a++) {
                if (met[a]) {
                    laws &= lawsOfOne(a);
                    for (int b = 0; b < rules.base; b++) {
                        if (met[b]) {
                            laws &= lawsOfMore(a, b);
                        }
                    }
                }
            }
            return laws;
        }

        private void meetAll() {
            for (int a = 0; a < MOST_BASE; a++) {
                met[a] = a == rules.zero || a == rules.one;
            }
            for (int item = 0; item < chart.itemCount(); item++) {
                met[now[item]] = true;
            }
            for (int rule = 0; rule < rules.ruleCount; rule++) {
                if (!rules.isOut[rule]) {
                    met[rules.element[rule]] = true;
                }
            }
        }

        private int lawsOfOne(int a) {
            int zero = rules.zero;
            int one = rules.one;
            int laws = ALL_LAWS;
            laws = keep(laws, 2, rules.plus(a, zero), a);
            laws = keep(laws, 4, rules.times(one, a), a);
            laws = keep(laws, 4, rules.times(a, one), a);
            laws = keep(laws, 5, rules.times(zero, a), zero);
            laws = keep(laws, 5, rules.times(a, zero), zero);
            return keep(laws, 8, rules.plus(a, a), a);
        }

        private int lawsOfMore(int a, int b) {
            int laws = keep(ALL_LAWS, 0, rules.plus(a, b), rules.plus(b, a));
            for (int c = 0; c < rules.base; c++) {
                if (met[c]) {
                    laws = keep(laws, 1, rules.plus(rules.plus(a, b), c), rules.plus(a, rules.plus(b, c)));
                    laws = keep(laws, 3, rules.times(rules.times(a, b), c), rules.times(a, rules.times(b, c)));
                    int apart = rules.plus(rules.times(a, b), rules.times(a, c));
                    laws = keep(laws, 6, rules.times(a, rules.plus(b, c)), apart);
                    apart = rules.plus(rules.times(a, c), rules.times(b, c));
                    laws = keep(laws, 7, rules.times(rules.plus(a, b), c), apart);
                }
            }
            return laws;
        }

        private static int keep(int laws, int law, int one, int other) {
            return one == other ? laws : laws & ~(1 << law);
        }
    }

    /**
     * The first trees of each item in their order. A tree is its item times RANKED, and its place; it
     * has its case, and the places of its parts' trees. Its rank is its place by shape alone, among
     * those of its item that are known: that settles like costs without a walk through both trees.
     */
    private static final class Forest {
        private final Grammar rules;
        private final Chart chart;
        private final Costs costs;
        final int[] cost;
        final int[] caseOf;
        private final int[] subs;
        private final int[] rank;
        private final int[] held;
        private final boolean[] grown;
        private final int[] baseCost;
        private final int[] baseCase;
        private final int[] baseSubs;
        private final int[] baseHeld;
        private final int[] baseTaken;
        private final int[] unaryCase;
        private final int[] unaryTaken;
        private int headCost;
        private int headFrom;

        Forest(Grammar rules, Chart chart, Costs costs) {
            this.rules = rules;
            this.chart = chart;
            this.costs = costs;
            cost = new int[MOST_TREES];
            caseOf = new int[MOST_TREES];
            subs = new int[MOST_TREES];
            rank = new int[MOST_TREES];
            held = new int[MOST_ITEMS];
            grown = new boolean[MOST_SPANS];
            baseCost = new int[LABELS * RANKED];
            baseCase = new int[LABELS * RANKED];
            baseSubs = new int[LABELS * RANKED];
            baseHeld = new int[LABELS];
            baseTaken = new int[LABELS];
            unaryCase = new int[MOST_RULES];
            unaryTaken = new int[MOST_RULES];
        }

        void forget() {
            for (int span = 0; span < MOST_SPANS; span++) {
                grown[span] = false;
            }
        }

        /** The k-th tree of an item, or NONE. */
        int treeOf(int item, int k) {
            costs.prepare();
            int outer = item / LABELS;
            for (int span = 0; span <= outer; span++) {
                if (!grown[span] && chart.isInside(span, outer)) {
                    grown[span] = true;
                    growSpan(span);
                }
            }
            return k < 0 || k >= held[item] ? NONE : item * RANKED + k;
        }

        int leftTree(int tree) {
            int part = chart.left[caseOf[tree]];
            return part < 0 ? NONE : part * RANKED + subs[tree] / RANKED;
        }

        int rightTree(int tree) {
            int part = chart.right[caseOf[tree]];
            return part < 0 ? NONE : part * RANKED + subs[tree] % RANKED;
        }

        private void growSpan(int span) {
            int base = span * LABELS;
            int going = 0;
            for (int at = 0; at < chart.unaryCount; at++) {
                int rule = chart.unary[at];
                unaryTaken[at] = 0;
                unaryCase[at] = caseOfRule(base + rules.head[rule], rule);
                going |= 1 << rules.head[rule];
            }
            for (int label = 0; label < LABELS; label++) {
                held[base + label] = 0;
                baseHeld[label] = 0;
                baseTaken[label] = 0;
                gatherBase(base + label, label);
                if ((going >> label & 1) == 0) {
                    takeAllOfBase(base + label, label);
                }
            }
            boolean more = going != 0;
            // Rules cost something: the least that is left waits for no dearer one.
            for (int turn = 0; turn < LABELS * RANKED && more; turn++) {
                more = takeLeast(base, going);
            }
        }

        private int caseOfRule(int item, int rule) {
            for (int at = chart.caseStart(item); at < chart.caseEnd(item); at++) {
                if (chart.rule[at] == rule) {
                    return at;
                }
            }
            return NONE;
        }

        /** The first trees of all cases whose items are of shorter spans. */
        private void gatherBase(int item, int label) {
            for (int at = chart.caseStart(item); at < chart.caseEnd(item); at++) {
                if (!chart.goesOn(at) && costs.isFull(at)) {
                    gatherPairs(at, label);
                }
            }
        }

        /** Each row of pairs, and their first ones, go up in the order: behind one that does not fit none does. */
        private void gatherPairs(int at, int label) {
            int first = chart.left[at];
            int second = chart.right[at];
            int firstHeld = first < 0 ? 1 : held[first];
            int secondHeld = second < 0 ? 1 : held[second];
            int price = rules.price[chart.rule[at]];
            for (int k = 0; k < firstHeld; k++) {
                int costSoFar = first < 0 ? price : price + cost[first * RANKED + k];
                for (int l = 0; l < secondHeld; l++) {
                    int all = second < 0 ? costSoFar : costSoFar + cost[second * RANKED + l];
                    if (!putInBase(label, all, at, k * RANKED + l)) {
                        if (l == 0) {
                            return;
                        }
                        break;
                    }
                }
            }
        }

        private boolean putInBase(int label, int all, int at, int sub) {
            int start = label * RANKED;
            int place = start + baseHeld[label];
            while (place > start && baseCost[place - 1] > all) {
                place--;
            }
            while (place > start && baseCost[place - 1] == all
                && isSmaller(at, sub, baseCase[place - 1], baseSubs[place - 1])) {
                place--;
            }
            if (place >= start + RANKED) {
                return false;
            }
            int last = start + Math.min(baseHeld[label], RANKED - 1);
            for (int to = last; to > place; to--) {
                baseCost[to] = baseCost[to - 1];
                baseCase[to] = baseCase[to - 1];
                baseSubs[to] = baseSubs[to - 1];
            }
            baseCost[place] = all;
            baseCase[place] = at;
            baseSubs[place] = sub;
            baseHeld[label] = last - start + 1;
            return true;
        }

        /** By shape alone: the case (cases stand by rule, then m), then the parts' trees. */
        private boolean isSmaller(int at, int sub, int otherAt, int otherSub) {
            if (at != otherAt) {
                return at < otherAt;
            }
            int first = chart.left[at];
            int second = chart.right[at];
            if (first >= 0 && sub / RANKED != otherSub / RANKED) {
                return rank[first * RANKED + sub / RANKED] < rank[first * RANKED + otherSub / RANKED];
            }
            return second >= 0
                && rank[second * RANKED + sub % RANKED] < rank[second * RANKED + otherSub % RANKED];
        }

        private void append(int item, int all, int at, int sub) {
            int start = item * RANKED;
            int end = start + held[item];
            int smaller = 0;
            for (int tree = start; tree < end; tree++) {
                if (isSmaller(caseOf[tree], subs[tree], at, sub)) {
                    smaller++;
                }
            }
            // Not in the loop above: a label can be its own part, and these ranks be asked there.
            for (int tree = start; tree < end; tree++) {
                if (rank[tree] >= smaller) {
                    rank[tree]++;
                }
            }
            cost[end] = all;
            caseOf[end] = at;
            subs[end] = sub;
            rank[end] = smaller;
            held[item]++;
        }

        private void takeAllOfBase(int item, int label) {
            for (int turn = 0; turn < RANKED && baseTaken[label] < baseHeld[label]; turn++) {
                takeOfBase(item, label);
            }
        }

        private void takeOfBase(int item, int label) {
            int at = label * RANKED + baseTaken[label];
            append(item, baseCost[at], baseCase[at], baseSubs[at]);
            baseTaken[label]++;
        }

        /** Takes the cheapest tree that any label of the span has left; false if there is none. */
        private boolean takeLeast(int base, int going) {
            int label = NONE;
            int from = NONE;
            int found = NONE;
            for (int at = 0; at < LABELS; at++) {
                if ((going >> at & 1) == 1 && held[base + at] < RANKED) {
                    findHead(base, at);
                    if (headCost != NONE && (found == NONE || headCost < found)) {
                        label = at;
                        from = headFrom;
                        found = headCost;
                    }
                }
            }
            if (label == NONE) {
                return false;
            }
            if (from == NONE) {
                takeOfBase(base + label, label);
            } else {
                append(base + label, found, unaryCase[from], unaryTaken[from] * RANKED);
                unaryTaken[from]++;
            }
            return true;
        }

        /**
         * A label's first tree that is left: headFrom is NONE (of its base), or the place of a rule in
         * unary. What is compared is of different cases, so like costs are settled by the case alone.
         */
        private void findHead(int base, int label) {
            headCost = NONE;
            headFrom = NONE;
            int headCase = NONE;
            if (baseTaken[label] < baseHeld[label]) {
                int at = label * RANKED + baseTaken[label];
                headCost = baseCost[at];
                headCase = baseCase[at];
            }
            for (int at = 0; at < chart.unaryCount; at++) {
                int rule = chart.unary[at];
                int part = base + rules.left[rule];
                if (rules.head[rule] == label && unaryTaken[at] < held[part]) {
                    int all = rules.price[rule] + cost[part * RANKED + unaryTaken[at]];
                    boolean like = all == headCost && unaryCase[at] < headCase;
                    if (headCost == NONE || all < headCost || like) {
                        headCost = all;
                        headFrom = at;
                        headCase = unaryCase[at];
                    }
                }
            }
        }
    }

    /** One tree, step by step or told as a text. */
    private static final class Walk {
        /** A step leaves no more than four on the stack beside its first part. */
        private static final int STACK_ROOM = MOST_STEPS * 5;

        private final Grammar rules;
        private final Chart chart;
        private final Forest forest;
        private final int[] stack;
        private final int[] depths;
        private final int[] steps;
        private int top;
        int stepCount;
        int deepest;
        private int written;

        Walk(Grammar rules, Chart chart, Forest forest) {
            this.rules = rules;
            this.chart = chart;
            this.forest = forest;
            stack = new int[STACK_ROOM];
            depths = new int[STACK_ROOM];
            steps = new int[MOST_STEPS];
        }

        void follow(int tree) {
            stepCount = 0;
            deepest = 0;
            top = 0;
            push(tree, 1);
            for (int turn = 0; turn < MOST_STEPS && top > 0; turn++) {
                top--;
                int at = stack[top];
                int depth = depths[top];
                steps[stepCount] = at;
                stepCount++;
                deepest = Math.max(deepest, depth);
                pushTree(forest.rightTree(at), depth + 1);
                pushTree(forest.leftTree(at), depth + 1);
            }
        }

        private void pushTree(int tree, int depth) {
            if (tree >= 0) {
                push(tree, depth);
            }
        }

        private void push(int entry, int depth) {
            if (top < STACK_ROOM) {
                stack[top] = entry;
                depths[top] = depth;
                top++;
            }
        }

        private int caseAt(int n) {
            return forest.caseOf[steps[n]];
        }

        int ruleOf(int n) {
            return n < 0 || n >= stepCount ? NONE : chart.rule[caseAt(n)];
        }

        int middleOf(int n) {
            return n < 0 || n >= stepCount ? NONE : chart.middle[caseAt(n)];
        }

        int beginOf(int n) {
            return n < 0 || n >= stepCount ? NONE : chart.beginOf(steps[n] / RANKED);
        }

        int finishOf(int n) {
            return n < 0 || n >= stepCount ? NONE : chart.finishOf(steps[n] / RANKED);
        }

        /** A case has its rule, span and m: like cases are like steps. */
        int alikeWith(Walk other) {
            int most = Math.min(stepCount, other.stepCount);
            int n = 0;
            while (n < most && caseAt(n) == other.caseAt(n)) {
                n++;
            }
            return n;
        }

        /** Writes the tree's text; on the stack a byte is below 0, and a tree is not. */
        int write(int tree, int[] out) {
            written = 0;
            top = 0;
            push(tree, 0);
            for (int turn = 0; turn < STACK_ROOM && top > 0; turn++) {
                top--;
                int entry = stack[top];
                if (entry < 0) {
                    put(out, -entry);
                } else {
                    open(out, entry);
                }
            }
            return written;
        }

        private void open(int[] out, int tree) {
            int rule = chart.rule[forest.caseOf[tree]];
            put(out, '(');
            put(out, 'A' + rules.head[rule]);
            push(-')', 0);
            if (rules.right[rule] != NONE) {
                pushPart(forest.rightTree(tree), rules.right[rule]);
            }
            pushPart(forest.leftTree(tree), rules.left[rule]);
        }

        private void pushPart(int tree, int part) {
            push(tree >= 0 ? tree : -('a' + part - FIRST_LETTER), 0);
            push(-' ', 0);
        }

        private void put(int[] out, int sign) {
            if (written < out.length) {
                out[written] = sign;
                written++;
            }
        }
    }

    /**
     * How many trees of each item have each cost, counted as far as was asked for. Where those of an
     * item are BEYOND together, no more of them are counted: whatever has such a part is BEYOND too.
     */
    private static final class Tally {
        private static final int WIDTH = MOST_CHEAP + 1;
        /** Two numbers below it have a product that a long holds. */
        private static final long SMALL = 1L << 31;

        private final Grammar rules;
        private final Chart chart;
        private final Costs costs;
        /** The cost up to which all items of a span are counted. */
        private final int[] counted;
        /** The dearest cost at which an item has trees that are counted. */
        private final int[] high;
        private final long[] together;
        /** Made when it is first asked for: it is by far the largest row. */
        private long[] number;

        Tally(Grammar rules, Chart chart, Costs costs) {
            this.rules = rules;
            this.chart = chart;
            this.costs = costs;
            counted = new int[MOST_SPANS];
            high = new int[MOST_ITEMS];
            together = new long[MOST_ITEMS];
        }

        void forget() {
            Arrays.fill(counted, 0);
            Arrays.fill(high, 0);
            Arrays.fill(together, 0L);
        }

        /** How many cost no more than this, or BEYOND. */
        long upTo(int item, int most) {
            costs.prepare();
            if (number == null) {
                number = new long[MOST_ITEMS * WIDTH];
            }
            int outer = item / LABELS;
            for (int span = 0; span <= outer; span++) {
                if (chart.isInside(span, outer)) {
                    countSpan(span, most);
                }
            }
            long all = 0;
            for (int cost = 1; cost <= most && cost < WIDTH; cost++) {
                all = add(all, number[item * WIDTH + cost]);
            }
            return all;
        }

        private void countSpan(int span, int most) {
            int base = span * LABELS;
            for (int cost = counted[span] + 1; cost <= most && cost < WIDTH; cost++) {
                for (int item = base; item < base + LABELS; item++) {
                    long many = countItem(item, cost);
                    number[item * WIDTH + cost] = many;
                    if (many != 0) {
                        high[item] = cost;
                        together[item] = add(together[item], many);
                    }
                }
                counted[span] = cost;
            }
        }

        private long countItem(int item, int cost) {
            long all = 0;
            if (!costs.has(item) || cost < costs.low[item] || together[item] >= BEYOND) {
                return all;
            }
            for (int at = chart.caseStart(item); at < chart.caseEnd(item); at++) {
                int rest = cost - rules.price[chart.rule[at]];
                if (rest >= 0 && costs.isFull(at)) {
                    all = add(all, countCase(at, rest));
                }
            }
            return all;
        }

        /** What is cheaper is all counted, over the same span too, as each rule costs something. */
        private long countCase(int at, int rest) {
            int first = chart.left[at];
            int second = chart.right[at];
            if (first < 0 && second < 0) {
                return rest == 0 ? 1 : 0;
            }
            if (first < 0 || second < 0) {
                return number[Math.max(first, second) * WIDTH + rest];
            }
            return countPairs(first, second, rest);
        }

        private long countPairs(int first, int second, int rest) {
            int from = Math.max(costs.low[first], rest - high[second]);
            int to = Math.min(high[first], rest - costs.low[second]);
            long all = 0;
            for (int cost = from; cost <= to; cost++) {
                long many = number[first * WIDTH + cost];
                if (many != 0) {
                    all = add(all, multiply(many, number[second * WIDTH + rest - cost]));
                }
            }
            return all;
        }

        static long add(long a, long b) {
            long all = a + b;
            return all > BEYOND ? BEYOND : all;
        }

        static long multiply(long a, long b) {
            if (a == 0 || b == 0) {
                return 0;
            }
            boolean fits = a < SMALL && b < SMALL ? a * b < BEYOND : a <= BEYOND / b;
            return fits ? a * b : BEYOND;
        }
    }

    /**
     * Changes of one letter. What stands around an item does not depend on the letters in it, so one
     * way down from the whole sentence tells, for each item, the least that the rest of a tree costs;
     * a changed letter then needs a rule that has it, its other part, and what is around.
     */
    private static final class Mender {
        private final Grammar rules;
        private final Chart chart;
        private final Costs costs;
        private final int[] around;
        private final int[] found;
        int changes;
        int place;
        int letter;
        int lowest;
        private boolean known;

        Mender(Grammar rules, Chart chart, Costs costs) {
            this.rules = rules;
            this.chart = chart;
            this.costs = costs;
            around = new int[MOST_ITEMS];
            found = new int[MOST_LETTERS * ALPHABET];
        }

        void forget() {
            known = false;
        }

        /** Whole: the start over the whole sentence, or NONE. */
        void prepare(int whole) {
            if (known) {
                return;
            }
            known = true;
            Arrays.fill(found, NONE);
            if (whole >= 0) {
                costs.prepare();
                goDown(whole);
                for (int span = 0; span < chart.spanCount; span++) {
                    for (int rule = 0; rule < rules.ruleCount; rule++) {
                        if (!rules.isOut[rule]) {
                            tryRule(rule, span);
                        }
                    }
                }
            }
            choose();
        }

        private void goDown(int whole) {
            Arrays.fill(around, NONE);
            around[whole] = 0;
            for (int span = chart.spanCount - 1; span >= 0; span--) {
                int base = span * LABELS;
                boolean changed = true;
                for (int turn = 0; turn <= LABELS && changed; turn++) {
                    changed = relax(base);
                }
                for (int item = base; item < base + LABELS; item++) {
                    if (around[item] != NONE) {
                        goToParts(item);
                    }
                }
            }
        }

        private boolean relax(int base) {
            boolean changed = false;
            for (int at = 0; at < chart.unaryCount; at++) {
                int rule = chart.unary[at];
                int outer = around[base + rules.head[rule]];
                if (outer != NONE) {
                    changed |= improve(around, base + rules.left[rule], outer + rules.price[rule]);
                }
            }
            return changed;
        }

        private void goToParts(int item) {
            for (int at = chart.caseStart(item); at < chart.caseEnd(item); at++) {
                int first = chart.left[at];
                int second = chart.right[at];
                int outer = around[item] + rules.price[chart.rule[at]];
                int firstCost = first < 0 ? 0 : costs.low[first];
                int secondCost = second < 0 ? 0 : costs.low[second];
                boolean ofTwo = chart.middle[at] != NONE;
                if (ofTwo && first >= 0 && secondCost >= 0) {
                    improve(around, first, outer + secondCost);
                }
                if (ofTwo && second >= 0 && firstCost >= 0) {
                    improve(around, second, outer + firstCost);
                }
            }
        }

        private static boolean improve(int[] row, int at, int cost) {
            int before = row[at];
            row[at] = Costs.lesser(before, cost);
            return row[at] != before;
        }

        /** The letters of a rule over a span, each as if it were the changed one. */
        private void tryRule(int rule, int span) {
            int i = chart.begin[span];
            int j = chart.finish[span];
            int outer = around[span * LABELS + rules.head[rule]];
            int first = rules.left[rule];
            int second = rules.right[rule];
            if (outer == NONE) {
                return;
            }
            if (second == NONE) {
                tryLetter(first, i, j == i + 1 ? 0 : NONE, outer + rules.price[rule]);
            } else if (j > i + 1) {
                tryLetter(first, i, partCost(second, i + 1, j), outer + rules.price[rule]);
                tryLetter(second, j - 1, partCost(first, i, j - 1), outer + rules.price[rule]);
            }
        }

        private void tryLetter(int part, int at, int rest, int outer) {
            if (part >= FIRST_LETTER && rest != NONE) {
                improve(found, at * ALPHABET + part - FIRST_LETTER, outer + rest);
            }
        }

        private int partCost(int part, int i, int j) {
            if (part < FIRST_LETTER) {
                return costs.low[chart.itemAt(part, i, j)];
            }
            return j == i + 1 && chart.letters[i] == part - FIRST_LETTER ? 0 : NONE;
        }

        private void choose() {
            changes = 0;
            place = NONE;
            letter = NONE;
            lowest = NONE;
            for (int at = 0; at < chart.letterCount; at++) {
                for (int other = 0; other < ALPHABET; other++) {
                    int cost = found[at * ALPHABET + other];
                    if (cost != NONE && other != chart.letters[at]) {
                        changes++;
                        if (lowest == NONE || cost < lowest) {
                            lowest = cost;
                            place = at;
                            letter = other;
                        }
                    }
                }
            }
        }
    }
}
