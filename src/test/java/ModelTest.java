import java.util.Random;

/** Runs of drawn calls: the class and the model must answer alike, and stand alike behind each call. */
public final class ModelTest {
    private static int wrong = 0;
    private static long checked = 0;
    private static StringBuilder log = new StringBuilder();

    private static StubKeep x;
    private static Model m;
    private static int calls;
    private static Random random;

    private static int draw(int n) { return random.nextInt(n); }

    private static void same(String call, long got, long want) {
        checked++;
        log.append(call).append(" = ").append(got).append('\n');
        if (got != want) {
            wrong++;
            if (wrong < 4) System.out.println("at the end of\n" + log + "the model answers " + want + "\n");
        }
    }

    static int[] ints(String text, int from) {
        int[] ints = new int[5];
        for (int i = 0; i < 20; i++) {
            int c = from + i < text.length() ? text.charAt(from + i) : ' ';
            ints[i / 4] |= c << 8 * (3 - i % 4);
        }
        return ints;
    }

    private static void tell(String text) {
        for (int from = 0; from < text.length(); from += 20) {
            int[] v = ints(text, from);
            same("feed", x.feed(v[0], v[1], v[2], v[3], v[4]), m.feed(v));
            calls++;
        }
        same("life \"" + text + "\"", x.life(text.length()), m.life(text.length()));
        same("fault(0)", x.fault(0), m.fault(0));
        same("fault(1)", x.fault(1), m.fault(1));
        calls += 3;
    }

    private static void stand() {
        for (int what = 0; what <= 10; what++) same("count(" + what + ")", x.count(what), m.count(what));
        calls += 11;
    }

    private static int someDoing() { return draw(20) == 0 ? draw(12) - 2 : m.n() == 0 ? draw(2) : draw(m.n()); }

    private static int someSet() {
        if (draw(20) == 0) return draw(2) == 0 ? 1 << m.n() : random.nextInt();
        int all = (1 << m.n()) - 1;
        return draw(2) == 0 ? random.nextInt() & random.nextInt() & all : random.nextInt() & all;
    }

    private static int someTray() { return draw(25) == 0 ? draw(7) - 2 : draw(3); }

    /** The TRAY, or now and then another one. */
    private static int fillTray(int kind) {
        int t = draw(3), sort = draw(4), n = draw(8) == 0 ? draw(43) - 1 : kind == 1 ? draw(5) : 1 + draw(4);
        same("numbers(" + t + "," + sort + "," + n + ")", x.numbers(t, sort, n), m.numbers(t, sort, n));
        calls++;
        for (int i = 0; i < n && i < 14; i++) {
            long v;
            if (draw(60) == 0) v = random.nextLong();
            else if (kind == 0) v = (draw(2) == 0 ? 0 : draw(4)) * 10 + (m.n() == 0 ? 0 : draw(m.n())) + (draw(15) == 0 ? 20 : 0);
            else if (kind == 1) v = told();
            else v = 2 * forged() + draw(2);
            same("write(" + t + "," + i + "," + v + ")", x.write(t, i, v), m.write(t, i, v));
            calls++;
        }
        return draw(8) == 0 ? someTray() : t;
    }

    private static int pick(int set) {
        if (set == 0 || draw(80) == 0) return draw(10);
        while (true) {
            int d = draw(8);
            if ((set >> d & 1) == 1) return d;
        }
    }

    private static long told() {
        int d = pick(m.done(m.now)), e = pick(m.done(m.now) & ~(1 << d));
        return draw(4) == 0 ? 10L * d + e : 10L * Math.min(d, e) + Math.max(d, e);
    }

    private static int forged() { return pick(m.count(6)); }

    private static void deed() {
        int d = someDoing();
        switch (draw(14)) {
            case 12: { int t = draw(4); x.numbers(t, 2, 0); m.numbers(t, 2, 0); calls++; }
            case 13: { int n = m.past.size(); if (n > 0 && draw(3) == 0) same("undo(" + n + ")", x.undo(n), m.undo(n)); break; }
            case 0: case 1: case 2: case 3: same("does(" + d + ")", x.does(d), m.does(d)); break;
            case 4: same("drop(" + d + ")", x.drop(d), m.drop(d)); break;
            case 5: case 6: same("forge(" + d + ")", x.forge(d), m.forge(d)); break;
            case 7: same("ask(" + d + ")", x.ask(d), m.ask(d)); break;
            case 8: { int n = draw(12) - 1; same("slip(" + n + ")", x.slip(n), m.slip(n)); break; }
            case 9: { int n = draw(4) == 0 ? draw(13) - 1 : 1; same("undo(" + n + ")", x.undo(n), m.undo(n)); break; }
            case 10: { int s = random.nextInt(), n = draw(8) == 0 ? draw(44) - 1 : 1 + draw(8); same("year(" + s + "," + n + ")", x.year(s, n), m.year(s, n)); break; }
            default: { int t = fillTray(0); same("perform(" + t + ")", x.perform(t), m.perform(t)); }
        }
        calls++;
    }

    private static void question() {
        int d = someDoing(), e = someDoing(), set = someSet(), t = someTray(), i = draw(10) - 1, two = draw(10) == 0 ? draw(5) - 2 : draw(2);
        int ten = draw(4) == 0 ? draw(20) - 1 : 10 + d;
        calls++;
        switch (draw(27)) {
            case 0: { int w = draw(10) - 1; same("doing(" + d + "," + w + ")", x.doing(d, w), m.doing(d, w)); break; }
            case 1: { int k = draw(11) - 1; same("door(" + k + ")", x.door(k), m.door(k)); break; }
            case 2: same("putBack(" + d + ")", x.putBack(d), m.putBack(d)); break;
            case 3: same("open", x.open(), m.open()); break;
            case 4: { t = fillTray(0); int w = draw(6) - 1; same("judge(" + t + "," + w + ")", x.judge(t, w), m.judge(t, w)); break; }
            case 5: same("soonest(" + set + ")", x.soonest(set), m.soonest(set)); break;
            case 6: same("way(" + set + "," + i + ")", x.way(set, i), m.way(set, i)); break;
            case 7: same("shown(" + set + ")", x.shown(set), m.shown(set)); break;
            case 8: same("shownBy(" + set + "," + i + ")", x.shownBy(set, i), m.shownBy(set, i)); break;
            case 9: same("rows(" + set + "," + i + ")", x.rows(set, i), m.rows(set, i)); break;
            case 10: same("most", x.most(), m.most()); break;
            case 11: same("stands", x.stands(), m.stands()); break;
            case 12: same("gain(" + d + ")", x.gain(d), m.gain(d)); break;
            case 13: same("pack(" + two + ")", x.pack(two), m.pack(two)); break;
            case 14: t = fillTray(1); same("orders(" + t + ")", x.orders(t), m.orders(t)); break;
            case 15: t = fillTray(1); same("order(" + t + "," + i + ")", x.order(t, i), m.order(t, i)); break;
            case 16: t = fillTray(1); same("ahead(" + t + "," + d + "," + e + ")", x.ahead(t, d, e), m.ahead(t, d, e)); break;
            case 17: same("join(" + ten + ")", x.join(ten), m.join(ten)); same("join(0)", x.join(0), m.join(0)); calls++; break;
            case 18: same("over", x.over(), m.over()); break;
            case 19: t = fillTray(2); same("slips(" + t + ")", x.slips(t), m.slips(t)); same("attempt(" + t + ")", x.attempt(t), m.attempt(t)); calls++; break;
            case 20: same("linings(" + ten + ")", x.linings(ten), m.linings(ten)); same("linings(0)", x.linings(0), m.linings(0)); calls++; break;
            case 21: same("clique", x.clique(), m.clique()); break;
            case 22: same("forces(" + set + ")", x.forces(set), m.forces(set)); same("best(" + set + ")", x.best(set), m.best(set)); calls++; break;
            case 23: same("chance(" + d + "," + two + ")", x.chance(d, two), m.chance(d, two)); break;
            case 24: same("mean(" + two + ")", x.mean(two), m.mean(two)); same("wanted", x.wanted(), m.wanted()); calls++; break;
            case 25: {
                same("lists(" + t + "," + set + ")", x.lists(t, set), m.lists(t, set));
                same("judge(" + t + ",3)", x.judge(t, 3), m.judge(t, 3));
                calls++;
                break;
            }
            default: {
                int k = draw(12) == 0 ? draw(5) - 1 : draw(2);
                if (draw(2) == 0) same("image(" + k + ")", x.image(k), m.image(k));
                else same("restore(" + k + ")", x.restore(k), m.restore(k));
            }
        }
    }

    private static void run(long seed, int doings) {
        random = new Random(seed);
        Texts texts = new Texts(seed);
        x = new StubKeep();
        m = new Model();
        calls = 0;
        log = new StringBuilder();
        if (draw(8) != 0) tell(texts.life(doings));
        while (calls < 420) {
            int kind = draw(30);
            if (kind == 0 && calls < 350) tell(draw(3) == 0 ? texts.hurt(texts.life(doings)) : texts.life(doings - draw(2)));
            else if (kind < 14) deed();
            else question();
            if (draw(8) == 0) stand();
        }
        stand();
    }

    private static void hurtTexts(long seed, int times) {
        Texts texts = new Texts(seed);
        for (int i = 0; i < times; i++) {
            x = new StubKeep();
            m = new Model();
            calls = 0;
            log = new StringBuilder();
            for (int k = 0; k < 8; k++) {
                tell(texts.hurt(texts.life(k % 2 == 0 ? 3 : 8)));
                stand();
            }
        }
    }

    public static void main(String[] args) {
        int times = args.length > 0 ? Integer.parseInt(args[0]) : 1;
        for (int seed = 0; seed < 700 * times; seed++) run(seed, 3 + seed % 2);
        for (int seed = 0; seed < 40 * times; seed++) run(1000000 + seed, 3 + seed % 6);
        hurtTexts(7, 1200 * times);
        System.out.println(checked + " answers compared with the model, " + wrong + " differ");
        if (wrong != 0) System.exit(1);
    }
}
