import java.lang.management.ManagementFactory;

/** What a run makes: the rows of the constructor, the one that cheap makes, and nothing with any later call. */
public final class RoomTest {
    private static final long MOST_AT_FIRST = 1_500_000;
    private static final long MOST_LATER = 1_200_000;
    private static int wrong = 0;
    private static long answers = 0;

    private static long allocated() {
        com.sun.management.ThreadMXBean bean = (com.sun.management.ThreadMXBean) ManagementFactory.getThreadMXBean();
        return bean.getThreadAllocatedBytes(Thread.currentThread().getId());
    }

    private static void must(boolean holds, String what) {
        if (!holds) {
            wrong++;
            System.out.println(what);
        }
    }

    public static void main(String[] args) {
        long before = allocated();
        Desk d = new Desk("room");
        long made = allocated() - before;
        must(made <= MOST_AT_FIRST, "a new object takes " + made + " bytes");
        StringBuilder text = new StringBuilder();
        for (int label = 0; label < 12; label++) {
            char next = (char) ('A' + (label + 1) % 12);
            text.append("rule ").append((char) ('A' + label)).append('=').append(next).append(';');
            text.append("rule ").append(next).append('=').append((char) ('A' + label * 5 % 12)).append("A;");
        }
        text.append("rule A=a;rule B=a;rule A=b cost 2;rule A=AA;");
        d.grammar(text.toString());
        d.say("abababab");
        before = allocated();
        long start = System.nanoTime();
        for (int call = 0; call < 480; call++) {
            all(d.x, call);
        }
        made = allocated() - before;
        must(made <= MOST_LATER, "480 rounds of calls take " + made + " bytes");
        System.out.println((System.nanoTime() - start) / 1000000 + " ms, " + answers % 10 + ", "
            + (wrong == 0 ? "the room is enough" : "the room is not enough"));
        if (wrong != 0) {
            System.exit(1);
        }
    }

    /** Each call must find everything anew: another cost, another rule out, another element. */
    private static void all(SpanValues x, int call) {
        int k = call % 16;
        x.prices(call % 28, 1 + call % 7);
        x.elements(call % 28, call & 1);
        x.drops(call / 2 % 12, call & 1);
        answers += x.count(6) + x.least(0, 0, 8) + x.ways(0, 0, 8) + x.dearest(0, 0, 8) + x.used(0, 0, 8, call & 1);
        answers += x.sum(0, 0, 8) + x.value(0, 0, 8) + x.rounds() + x.laws() + x.cases(0, 0, 1, 2) + x.settled(call, 3);
        answers += x.best(0, 0, 8, k) + x.size(0, 0, 8, k, 1) + x.step(0, 0, 8, k, 3) + x.bounds(k, 3, 1);
        answers += x.tell(0, 0, 8, k) + x.octet(7) + x.alike(0, 0, 8, k, 3) + x.without(call % 28) + x.heads();
        answers += x.cheap(0, 0, 8, call % 10 == 0 ? 300 : 40);
        answers += x.mends() + x.mend(2) + x.rings() + x.alive();
    }
}
