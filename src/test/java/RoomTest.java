import java.lang.management.ManagementFactory;

/** What a run makes is counted, as bytes: an object, its dearest questions, and calls made again and again. */
public final class RoomTest {
    private static final com.sun.management.ThreadMXBean THREADS = (com.sun.management.ThreadMXBean) ManagementFactory.getThreadMXBean();
    private static int wrong = 0;
    private static long sum = 0;

    private static long made() { return THREADS.getCurrentThreadAllocatedBytes(); }

    private static void below(String what, long bytes, long bound) {
        System.out.println(what + ": " + bytes + " bytes");
        if (bytes >= bound) {
            wrong++;
            System.out.println(what + " makes too much: " + bound + " is the bound");
        }
    }

    private static void ask(StubKeep x) {
        for (int set = 0; set < 256; set += 51) {
            sum += x.soonest(set) + x.way(set, 1) + x.shown(set) + x.shownBy(set, 2) + x.rows(set, 8) + x.forces(set & 7) + x.best(set & 7) + x.lists(0, set);
        }
        sum += x.most() + x.stands() + x.pack(0) + x.pack(1) + x.orders(1) + x.order(1, 0) + x.ahead(1, 0, 1) + x.join(0) + x.over();
        sum += x.linings(0) + x.clique() + x.chance(0, 0) + x.mean(0) + x.wanted() + x.slips(2) + x.attempt(2) + x.judge(0, 0) + x.open();
    }

    private static void act(StubKeep x) {
        sum += x.does(0) + x.drop(0) + x.ask(0) + x.forge(0) + x.slip(3) + x.perform(0) + x.year(7, 40) + x.undo(1) + x.image(0) + x.image(1) + x.restore(0);
        sum += x.numbers(0, 2, 40) + x.write(0, 3, 7) + x.feed(1, 2, 3, 4, 5) + x.life(20) + x.count(9);
    }

    public static void main(String[] args) {
        // what the machine makes when classes come in is none of the class's
        StubKeep first = Bounds.of("life room 40;" + Bounds.doings(2) + "keeps:1=1;passes:slip<1;");
        ask(first);
        act(first);
        long before = made();
        StubKeep x = new StubKeep();
        below("a new object", made() - before, 120_000);
        Bounds.tell(x, "life room 40;" + Bounds.doings(8) + "passes:slip<4;clash 0 1;door 9;");
        for (int d = 0; d < 8; d++) x.forge(d);
        for (int t = 0; t < 3; t++) x.numbers(t, 0, 1);
        before = made();
        ask(x);
        below("all that can be asked of eight", made() - before, 2_500_000);
        before = made();
        for (int i = 0; i < 5; i++) ask(x);
        below("all that can be asked, five times more", made() - before, 10_000);
        before = made();
        for (int i = 0; i < 20; i++) act(x);
        below("all that can be done, twenty times", made() - before, 10_000);
        System.out.println(wrong + " beyond their bounds (" + sum + ")");
        if (wrong != 0) System.exit(1);
    }
}
