import java.util.Random;

/** All trees of small grammars with many rings and like costs, against PlainModel: their order is the point. */
public final class TreesTest {
    private static final int RUNS = 600;
    private static int asked = 0;
    private static int unknown = 0;
    private static int wrong = 0;

    public static void main(String[] args) {
        int runs = args.length > 1 ? Integer.parseInt(args[1]) : RUNS;
        long first = args.length > 2 ? Long.parseLong(args[2]) : 1;
        for (long seed = first; seed < first + runs && wrong == 0; seed++) {
            run(seed);
        }
        System.out.println(asked + " trees, " + wrong + " runs not as due, " + unknown + " too dear to know");
        if (wrong != 0 || unknown * 4 > asked) {
            System.exit(1);
        }
    }

    private static String grammar(Random random) {
        int labels = 1 + random.nextInt(3);
        int dear = 1 + random.nextInt(3);
        StringBuilder text = new StringBuilder();
        for (int rule = 3 + random.nextInt(7); rule > 0; rule--) {
            text.append("rule ").append((char) ('A' + random.nextInt(labels))).append('=');
            text.append(part(random, labels));
            if (random.nextInt(2) == 0) {
                text.append(' ').append(part(random, labels));
            }
            text.append(" cost ").append(1 + random.nextInt(dear)).append(';');
        }
        return text.append("rule A=a;").toString();
    }

    private static char part(Random random, int labels) {
        return (char) (random.nextInt(3) == 0 ? 'a' : 'A' + random.nextInt(labels));
    }

    private static void feed(SpanValues program, PlainModel model, String text) {
        for (int at = 0; at < text.length(); at += 20) {
            int[] n = Desk.numbers(text, at);
            program.feed(n[0], n[1], n[2], n[3], n[4]);
            model.feed(n);
        }
        program.end(text.length());
        model.end(text.length());
    }

    private static void run(long seed) {
        Random random = new Random(seed);
        SpanValues program = new SpanValues();
        PlainModel model = new PlainModel();
        String text = grammar(random);
        feed(program, model, text);
        program.grammar();
        model.grammar();
        int length = 1 + random.nextInt(4);
        feed(program, model, "a".repeat(length));
        program.say();
        model.say();
        for (int label = 0; label < 3; label++) {
            dueTrees(program, model, label, length, "seed " + seed + ", " + text + " " + length + " letters");
        }
    }

    private static void dueTrees(SpanValues program, PlainModel model, int label, int length, String about) {
        for (int k = 0; k < 16; k++) {
            long steps = model.size(label, 0, length, k, 0);
            asked++;
            if (steps == PlainModel.UNKNOWN) {
                unknown++;
                return;
            }
            boolean like = program.size(label, 0, length, k, 0) == steps
                && program.best(label, 0, length, k) == model.best(label, 0, length, k);
            String got = "";
            String want = "";
            for (int n = 0; n < steps; n++) {
                got += " " + program.step(label, 0, length, k, n);
                want += " " + model.step(label, 0, length, k, n);
            }
            if (!like || !got.equals(want)) {
                wrong++;
                System.out.println(about + ", label " + label + ", tree " + k + " is" + got + ", due is" + want);
                return;
            }
            if (steps < 0) {
                return;
            }
        }
    }
}
