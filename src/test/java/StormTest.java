import java.util.Random;

/** Calls with numbers of all kinds: none throws, refused ones change nothing, two objects answer alike. */
public final class StormTest {
    private static final int[] EDGES = {Integer.MIN_VALUE, Integer.MAX_VALUE, -1, 0, 1, 2, 7, 8, 9, 10, 11, 17, 18, 31, 32, 33, 39, 40, 41,
        63, 64, 127, 128, 255, 256, 257, 511, 65535, 65536, 1 << 24, 1 << 30, -2, -8, -10, -32, -256};

    private static Random random;

    private static int some() {
        return random.nextInt(4) == 0 ? random.nextInt() : random.nextInt(3) == 0 ? EDGES[random.nextInt(EDGES.length)] : random.nextInt(12) - 1;
    }

    private static long call(StubKeep x, int which, int a, int b, int c, int d, int e) {
        switch (which) {
            case 0: return x.feed(a, b, c, d, e);
            case 1: return x.life(a);
            case 2: return x.fault(a);
            case 3: return x.doing(a, b);
            case 4: return x.door(a);
            case 5: return x.putBack(a);
            case 6: return x.open();
            case 7: return x.does(a);
            case 8: return x.drop(a);
            case 9: return x.forge(a);
            case 10: return x.ask(a);
            case 11: return x.slip(a);
            case 12: return x.undo(a);
            case 13: return x.judge(a, b);
            case 14: return x.perform(a);
            case 15: return x.year(a, b);
            case 16: return x.soonest(a);
            case 17: return x.way(a, b);
            case 18: return x.shown(a);
            case 19: return x.shownBy(a, b);
            case 20: return x.rows(a, b);
            case 21: return x.most();
            case 22: return x.stands();
            case 23: return x.gain(a);
            case 24: return x.pack(a);
            case 25: return x.orders(a);
            case 26: return x.order(a, b);
            case 27: return x.ahead(a, b, c);
            case 28: return x.join(a);
            case 29: return x.over();
            case 30: return x.slips(a);
            case 31: return x.attempt(a);
            case 32: return x.linings(a);
            case 33: return x.clique();
            case 34: return x.forces(a);
            case 35: return x.best(a);
            case 36: return x.chance(a, b);
            case 37: return x.mean(a);
            case 38: return x.wanted();
            case 39: return x.numbers(a, b, c);
            case 40: return x.write(a, b, (long) c << 32 ^ d);
            case 41: return x.lists(a, b);
            case 42: return x.image(a);
            case 43: return x.restore(a);
            default: return x.count(a);
        }
    }

    private static long stand(StubKeep x) {
        long all = 0;
        for (int what = 0; what <= 10; what++) all = all * 31 + x.count(what);
        return all * 31 + x.fault(1);
    }

    private static boolean refused(int which, long answer) {
        // a life with a FAULT empties the tape; write answers what is there
        return answer < -1 && which != 1 && which != 40;
    }

    public static void main(String[] args) {
        int wrong = 0;
        for (int run = 0; run < 400; run++) {
            random = new Random(run);
            Texts texts = new Texts(run);
            StubKeep x = new StubKeep();
            StubKeep y = new StubKeep();
            String text = texts.life(1 + run % 8);
            for (int from = 0; from < text.length(); from += 20) {
                int[] v = ModelTest.ints(text, from);
                x.feed(v[0], v[1], v[2], v[3], v[4]);
                y.feed(v[0], v[1], v[2], v[3], v[4]);
            }
            x.life(text.length());
            y.life(text.length());
            for (int i = 0; i < 400; i++) {
                int which = random.nextInt(45), a = some(), b = some(), c = some(), d = some(), e = some();
                long before = i % 20 == 0 ? stand(x) : 0;
                long got = call(x, which, a, b, c, d, e);
                if (i % 20 == 0 && refused(which, got) && stand(x) != before) {
                    wrong++;
                    System.out.println("run " + run + ": call " + which + " answered " + got + " and changed something");
                }
                if (call(y, which, a, b, c, d, e) != got) {
                    wrong++;
                    System.out.println("run " + run + ": call " + which + " answered twice not alike");
                }
            }
        }
        System.out.println("a storm of 160000 calls, " + wrong + " wrong");
        if (wrong != 0) System.exit(1);
    }
}
