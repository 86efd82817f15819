/** Behind each refused call, and behind each call that only asks, nothing has changed. */
public final class RefusedTest {
    private static final String TEXT = "life room 12;doing size 2 edge 4 asked 7;doing size 3 needs 0;doing size 1 edge 5 burns 3;doing size 9;"
        + "doing size 1 needs 1;doing size 2 edge 1 asked 2;door 5;door 8;door 4;clash 0 1;clash 1 2;clash 0 2;slip 3;keeps:doing<4;passes:slip<edge+doing;";
    private static final int LOW = Bounds.LOW;
    private static final int HIGH = Bounds.HIGH;

    /** 0 SHOWN, 1 BARE, 2 FORGED, 3 OPEN without ROOM, 4 OPEN, 5 FORGED; TRAYS of three sorts, an IMAGE, a text on THE TAPE, things to be UNDONE. */
    private static StubKeep full() {
        StubKeep x = Bounds.of(TEXT);
        x.does(0);
        x.slip(8);
        x.image(1);
        x.forge(5);
        x.does(1);
        x.drop(1);
        x.forge(2);
        x.numbers(0, 1, 2);
        x.write(0, 0, 1);
        x.write(0, 1, 10);
        x.numbers(1, 0, 13);
        x.numbers(2, 3, 3);
        x.write(2, 0, 5);
        x.write(2, 1, 10);
        x.write(2, 2, 8);
        Bounds.tell(x, "life room 40;door 10;");
        Bounds.feed(x, "life room 8;doing size 8;");
        return x;
    }

    /** As many calls to be UNDONE as can be, THE TAPE all but full, all TRAYS there. */
    private static StubKeep brimful() {
        StubKeep x = Bounds.of("life room 8;" + Bounds.doings(8) + "door 9;".repeat(8));
        for (int d = 0; d < 8; d++) x.does(d);
        x.slip(1);
        x.slip(2);
        x.slip(3);
        x.image(0);
        x.image(1);
        x.drop(7);
        for (int t = 0; t < 4; t++) x.numbers(t, t, 40);
        Bounds.feed(x, "life room 9;" + " ".repeat(888));
        return x;
    }

    private static void full(String call, Bounds.Call made, long want) { Bounds.unchanged(call, RefusedTest::full, made, want); }

    private static void fresh(String call, Bounds.Call made, long want) { Bounds.unchanged(call + " of a new object", StubKeep::new, made, want); }

    private static void brimful(String call, Bounds.Call made, long want) { Bounds.unchanged(call + ", all full", RefusedTest::brimful, made, want); }

    // ---- refused calls

    private static void life() {
        Bounds.sentence(2, "-5: it would have more than 900");
        brimful("feed", x -> x.feed(0, 0, 0, 0, 0), -5);
        brimful("feed", x -> x.feed(0x6C696665, -1, 1, 2, 3), -5);
        Bounds.sentence(3, "-3: n is below 0 or above what there is (THE TAPE stays)");
        for (int n : new int[] {LOW, -1, 41, HIGH}) full("life(" + n + ")", x -> x.life(n), -3);
        for (int n : new int[] {-1, 1, 900}) fresh("life(" + n + ")", x -> x.life(n), -3);
        brimful("life(901)", x -> x.life(901), -3);
        Bounds.sentence(4, "NONE for others");
        for (int what : new int[] {LOW, -1, 2, HIGH}) full("fault(" + what + ")", x -> x.fault(what), -1);
        Bounds.sentence(5, "-2");
        for (int d : new int[] {LOW, -1, 6, 8, HIGH}) full("doing(" + d + ", 0)", x -> x.doing(d, 0), -2);
        for (int what : new int[] {LOW, -1, 8, HIGH}) full("doing(0, " + what + ")", x -> x.doing(0, what), -2);
        fresh("doing(0, 0)", x -> x.doing(0, 0), -2);
        Bounds.sentence(6, "-2");
        for (int k : new int[] {LOW, -1, 3, HIGH}) full("door(" + k + ")", x -> x.door(k), -2);
        Bounds.sentence(7, "-2; -5: it isn't done");
        for (int d : new int[] {LOW, -1, 6, HIGH}) full("putBack(" + d + ")", x -> x.putBack(d), -2);
        for (int d = 2; d < 6; d++) {
            int one = d;
            full("putBack(" + d + ")", x -> x.putBack(one), -5);
        }
    }

    /** With a FAULT all is as with another text that has one, and TAPE and FAULT alone differ from what was. */
    private static void faults() {
        Bounds.sentence(3, "all stays with a FAULT");
        String[] bad = {"", "life room 41;", "life room 1;doing size 1;door 3;slip 4;keeps:1=1;passes:1=1;clash 0 0;", "!", "life room 9;doing size 9;doing size 1000;",
            "life room 9;" + Bounds.doings(9), "life room 9;" + "door 1;".repeat(9), "life room 9;passes:[[[[[[[1=1]]]]]]];", "life room 9;keeps:slip=1;"};
        for (String text : bad) {
            Bounds.unchanged("life of " + text, () -> {
                StubKeep x = full();
                x.life(0);
                return x;
            }, x -> {
                int code = Bounds.tell(x, text);
                x.life(0);
                return code < -30 && code > -35 ? 1 : code;
            }, 1);
        }
    }

    private static void deeds() {
        Bounds.sentence(9, "-11 to -13");
        for (int d : new int[] {LOW, -1, 6, 8, 9, 10, 20, HIGH}) full("does(" + d + ")", x -> x.does(d), -11);
        for (int d : new int[] {0, 1}) full("does(" + d + ")", x -> x.does(d), -12);
        Bounds.unchanged("does(1)", () -> Bounds.of(TEXT), x -> x.does(1), -13);
        Bounds.unchanged("does(4), FORGED", RefusedTest::unmet, x -> x.does(4), -13);
        Bounds.sentence(10, "-11, -12");
        for (int d : new int[] {LOW, -1, 6, 8, 9, 10, 20, HIGH}) full("drop(" + d + ")", x -> x.drop(d), -11);
        for (int d : new int[] {1, 3, 4}) full("drop(" + d + ")", x -> x.drop(d), -12);
        Bounds.sentence(11, "-11, -12, -14");
        for (int d : new int[] {LOW, -1, 6, 8, 9, 10, 20, HIGH}) full("forge(" + d + ")", x -> x.forge(d), -11);
        for (int d : new int[] {0, 1, 2, 5}) full("forge(" + d + ")", x -> x.forge(d), -12);
        full("forge(3)", x -> x.forge(3), -14);
        Bounds.sentence(12, "-11");
        for (int d : new int[] {LOW, -1, 6, 8, 9, 10, 19, HIGH}) full("ask(" + d + ")", x -> x.ask(d), -11);
        Bounds.sentence(13, "-11");
        for (int n : new int[] {LOW, -1, 10, 11, HIGH}) full("slip(" + n + ")", x -> x.slip(n), -11);
        Bounds.sentence(14, "-3: n, more than can be");
        for (int n : new int[] {LOW, -1, 0, 7, 10, 11, HIGH}) full("undo(" + n + ")", x -> x.undo(n), -3);
        fresh("undo(1)", x -> x.undo(1), -3);
        for (int n : new int[] {-1, 0, 11, 12, HIGH}) brimful("undo(" + n + ")", x -> x.undo(n), -3);
        Bounds.sentence(15, "-2: the TRAY, what; -6");
        for (int t : new int[] {LOW, -1, 4, HIGH}) full("judge(" + t + ", 0)", x -> x.judge(t, 0), -2);
        for (int what : new int[] {LOW, -1, 4, HIGH}) full("judge(2, " + what + ")", x -> x.judge(2, what), -2);
        full("judge(3, 0)", x -> x.judge(3, 0), -6);
        Bounds.sentence(16, "-2; -6");
        for (int t : new int[] {LOW, -1, 4, HIGH}) full("perform(" + t + ")", x -> x.perform(t), -2);
        full("perform(3)", x -> x.perform(3), -6);
        Bounds.sentence(16, "They are done, till one can't be: how many .. (none)");
        full("perform(1)", x -> x.perform(1), 0);
        Bounds.unchanged("perform of none", () -> tray(0), x -> x.perform(3), 0);
        Bounds.unchanged("perform of what can't be", () -> tray(1), x -> x.perform(3), 0);
        Bounds.sentence(17, "-3: how many times");
        for (int times : new int[] {LOW, -1, 0, 41, HIGH}) full("year(7, " + times + ")", x -> x.year(7, times), -3);
        fresh("year(7, 40): none could be", x -> x.year(7, 40), 0);
    }

    private static StubKeep unmet() {
        StubKeep x = Bounds.of(TEXT);
        x.forge(4);
        return x;
    }

    /** As full, and TRAY 3 has so many numbers of which the first can't be. */
    private static StubKeep tray(int n) {
        StubKeep x = full();
        x.numbers(3, 0, n);
        x.write(3, 0, 16);
        return x;
    }

    private static void sets() {
        Bounds.sentence(18, "-3: others are in the set");
        for (int set : new int[] {LOW, -1, 64, 65, HIGH}) {
            full("soonest(" + set + ")", x -> x.soonest(set), -3);
            full("way(" + set + ", 0)", x -> x.way(set, 0), -3);
            full("shown(" + set + ")", x -> x.shown(set), -3);
            full("shownBy(" + set + ", 0)", x -> x.shownBy(set, 0), -3);
            full("rows(" + set + ", 2)", x -> x.rows(set, 2), -3);
            full("forces(" + set + ")", x -> x.forces(set), -3);
            full("best(" + set + ")", x -> x.best(set), -3);
            full("lists(0, " + set + ")", x -> x.lists(0, set), -3);
        }
        for (int i : new int[] {LOW, -1}) {
            full("way(8, " + i + ")", x -> x.way(8, i), -3);
            full("shownBy(8, " + i + ")", x -> x.shownBy(8, i), -3);
        }
        for (int n : new int[] {LOW, -1, 9, HIGH}) full("rows(1, " + n + ")", x -> x.rows(1, n), -3);
        for (int d : new int[] {LOW, -1, 6, HIGH}) full("gain(" + d + ")", x -> x.gain(d), -2);
        for (int d : new int[] {2, 3, 4, 5}) full("gain(" + d + ")", x -> x.gain(d), -5);
        for (int what : new int[] {LOW, -1, 2, HIGH}) full("pack(" + what + ")", x -> x.pack(what), -2);
    }

    private static void told() {
        Bounds.sentence(27, "-2: the TRAY; -6; -4; -3");
        for (int t : new int[] {LOW, -1, 4, HIGH}) {
            full("orders(" + t + ")", x -> x.orders(t), -2);
            full("order(" + t + ", 0)", x -> x.order(t, 0), -2);
            full("ahead(" + t + ", 0, 1)", x -> x.ahead(t, 0, 1), -2);
            full("slips(" + t + ")", x -> x.slips(t), -2);
            full("attempt(" + t + ")", x -> x.attempt(t), -2);
        }
        full("orders(3)", x -> x.orders(3), -6);
        full("order(3, 0)", x -> x.order(3, 0), -6);
        full("ahead(3, 0, 1)", x -> x.ahead(3, 0, 1), -6);
        full("slips(3)", x -> x.slips(3), -6);
        full("attempt(3)", x -> x.attempt(3), -6);
        full("orders(1)", x -> x.orders(1), -4);
        full("order(1, 0)", x -> x.order(1, 0), -4);
        full("ahead(1, 0, 1)", x -> x.ahead(1, 0, 1), -4);
        full("slips(1)", x -> x.slips(1), -4);
        full("attempt(1)", x -> x.attempt(1), -4);
        full("orders(2)", x -> x.orders(2), -3);
        full("order(2, 0)", x -> x.order(2, 0), -3);
        full("order(0, -1)", x -> x.order(0, -1), -3);
        full("ahead(2, 0, 1)", x -> x.ahead(2, 0, 1), -3);
        full("slips(2)", x -> x.slips(2), -3);
        full("attempt(2)", x -> x.attempt(2), -3);
        full("ahead(0, 0, 0)", x -> x.ahead(0, 0, 0), -2);
        full("ahead(0, 0, 6)", x -> x.ahead(0, 0, 6), -2);
        full("ahead(0, -1, 0)", x -> x.ahead(0, -1, 0), -2);
        full("ahead(0, 0, 2)", x -> x.ahead(0, 0, 2), -5);
        full("ahead(0, 2, 0)", x -> x.ahead(0, 2, 0), -5);
    }

    private static void rest() {
        Bounds.sentence(30, "-2: what (10 and a DOING)");
        for (int what : new int[] {LOW, -1, 1, 9, 16, HIGH}) {
            full("join(" + what + ")", x -> x.join(what), -2);
            full("linings(" + what + ")", x -> x.linings(what), -2);
        }
        Bounds.sentence(38, "-2: the DOING, what; -5: it isn't done");
        for (int d : new int[] {LOW, -1, 6, HIGH}) full("chance(" + d + ", 0)", x -> x.chance(d, 0), -2);
        for (int what : new int[] {LOW, -1, 2, HIGH}) {
            full("chance(0, " + what + ")", x -> x.chance(0, what), -2);
            full("mean(" + what + ")", x -> x.mean(what), -2);
        }
        for (int d : new int[] {2, 3, 4, 5}) full("chance(" + d + ", 0)", x -> x.chance(d, 0), -5);
        Bounds.sentence(41, "-2: no such TRAY, sort; -3, and the TRAY stays");
        for (int t : new int[] {LOW, -1, 4, HIGH}) {
            full("numbers(" + t + ", 0, 1)", x -> x.numbers(t, 0, 1), -2);
            full("numbers(0, " + t + ", 1)", x -> x.numbers(0, t, 1), -2);
            full("write(" + t + ", 0, 7)", x -> x.write(t, 0, 7), -2);
            full("lists(" + t + ", 8)", x -> x.lists(t, 8), -2);
        }
        for (int t = 0; t < 4; t++) {
            int one = t;
            for (int n : new int[] {LOW, -1, 41, HIGH}) full("numbers(" + t + ", 2, " + n + ")", x -> x.numbers(one, 2, n), -3);
        }
        Bounds.sentence(42, "-6; -7");
        full("write(3, 0, 7)", x -> x.write(3, 0, 7), -6);
        for (int i : new int[] {LOW, -1, 2, 39, 40, HIGH}) full("write(0, " + i + ", 7)", x -> x.write(0, i, 7), -7);
        for (int i : new int[] {-1, 40, HIGH}) brimful("write(0, " + i + ", 7)", x -> x.write(0, i, 7), -7);
        Bounds.sentence(43, "-6; -5: there is none");
        full("lists(3, 1)", x -> x.lists(3, 1), -6);
        full("lists(0, 2)", x -> x.lists(0, 2), -5);
        full("lists(2, 3)", x -> x.lists(2, 3), -5);
        Bounds.sentence(44, "-2");
        for (int i : new int[] {LOW, -1, 2, HIGH}) full("image(" + i + ")", x -> x.image(i), -2);
        Bounds.sentence(45, "-2; -5: none was made");
        for (int i : new int[] {LOW, -1, 2, HIGH}) full("restore(" + i + ")", x -> x.restore(i), -2);
        full("restore(0)", x -> x.restore(0), -5);
        fresh("restore(0)", x -> x.restore(0), -5);
        fresh("restore(1)", x -> x.restore(1), -5);
        Bounds.sentence(46, "NONE for others");
        for (int what : new int[] {LOW, -1, 11, HIGH}) full("count(" + what + ")", x -> x.count(what), -1);
    }

    // ---- calls that only ask

    /** What is answered is due elsewhere; here a twin answers, too. */
    private static void asks(int promise, String call, Bounds.Call made) {
        Bounds.sentence(promise, "it only asks");
        full(call, made, made.on(full()));
        brimful(call, made, made.on(brimful()));
        fresh(call, made, made.on(new StubKeep()));
    }

    private static void questions() {
        asks(4, "fault(0)", x -> x.fault(0));
        asks(5, "doing(1, 0)", x -> x.doing(1, 0));
        asks(6, "door(1)", x -> x.door(1));
        asks(7, "putBack(0)", x -> x.putBack(0));
        asks(8, "open()", x -> x.open());
        for (int t = 0; t < 4; t++) {
            int tray = t;
            for (int w = 0; w < 4; w++) {
                int what = w;
                asks(15, "judge(" + t + ", " + w + ")", x -> x.judge(tray, what));
            }
            asks(27, "orders(" + t + ")", x -> x.orders(tray));
            asks(28, "order(" + t + ", 1)", x -> x.order(tray, 1));
            asks(29, "ahead(" + t + ", 1, 0)", x -> x.ahead(tray, 1, 0));
            asks(32, "slips(" + t + ")", x -> x.slips(tray));
            asks(33, "attempt(" + t + ")", x -> x.attempt(tray));
        }
        for (int s : new int[] {0, 1, 2, 4, 8, 16, 32, 63}) {
            asks(18, "soonest(" + s + ")", x -> x.soonest(s));
            asks(19, "way(" + s + ", 0)", x -> x.way(s, 0));
            asks(20, "shown(" + s + ")", x -> x.shown(s));
            asks(21, "shownBy(" + s + ", 0)", x -> x.shownBy(s, 0));
            asks(22, "rows(" + s + ", 3)", x -> x.rows(s, 3));
            asks(36, "forces(" + s + ")", x -> x.forces(s));
            asks(37, "best(" + s + ")", x -> x.best(s));
        }
        asks(23, "most()", x -> x.most());
        asks(24, "stands()", x -> x.stands());
        asks(25, "gain(0)", x -> x.gain(0));
        asks(26, "pack(0)", x -> x.pack(0));
        asks(26, "pack(1)", x -> x.pack(1));
        asks(30, "join(0)", x -> x.join(0));
        asks(30, "join(10)", x -> x.join(10));
        asks(31, "over()", x -> x.over());
        asks(34, "linings(0)", x -> x.linings(0));
        asks(34, "linings(11)", x -> x.linings(11));
        asks(35, "clique()", x -> x.clique());
        asks(38, "chance(0, 0)", x -> x.chance(0, 0));
        asks(38, "chance(1, 1)", x -> x.chance(1, 1));
        asks(39, "mean(0)", x -> x.mean(0));
        asks(39, "mean(1)", x -> x.mean(1));
        asks(40, "wanted()", x -> x.wanted());
        asks(46, "count(3)", x -> x.count(3));
    }

    public static void main(String[] args) {
        life();
        faults();
        deeds();
        sets();
        told();
        rest();
        questions();
        Bounds.finish(2, 46);
    }
}
