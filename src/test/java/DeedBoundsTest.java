/** The bounds of deeds: promises 7 to 17. */
public final class DeedBoundsTest {
    private static final int[] NO_DOING_OF_THREE = {Bounds.LOW, -10, -2, -1, 3, 4, 7, 8, 9, 10, 11, 12, 20, 21, 30, 40, 49, Bounds.HIGH};

    /** 0 OPEN, 1 SHOWN, 2 BARE, 3 FORGED; all of SIZE 1, none needs another. */
    private static StubKeep moods() {
        StubKeep x = Bounds.of("life room 9;" + Bounds.doings(4));
        x.does(1);
        x.does(2);
        x.drop(2);
        x.forge(3);
        return x;
    }

    private static StubKeep chain(int n) {
        StringBuilder text = new StringBuilder("life room 40;doing size 1;");
        for (int d = 1; d < n; d++) text.append("doing size 1 needs ").append(d - 1).append(';');
        return Bounds.of(text.toString());
    }

    // ---- 7, 8

    private static void putBack() {
        Bounds.sentence(7, "Done ones that would be PUT BACK, if a done one were, as bits (it, too)");
        StubKeep x = chain(8);
        for (int d = 0; d < 8; d++) x.does(d);
        for (int d = 0; d < 8; d++) Bounds.due("putBack(" + d + ")", x.putBack(d), 255 & -1 << d);
        StubKeep y = Bounds.of("life room 9;doing size 1;doing size 1 needs 0;doing size 1;doing size 1 needs 1 needs 2;doing size 1 needs 0;");
        y.does(0);
        Bounds.due("putBack(0): none needs it", y.putBack(0), 1);
        y.does(1);
        y.does(2);
        y.forge(4);
        Bounds.due("putBack(0): no FORGED one", y.putBack(0), 3);
        y.does(3);
        y.drop(3);
        Bounds.due("putBack(0): a BARE one, by another", y.putBack(0), 11);
        Bounds.due("putBack(2)", y.putBack(2), 12);
        Bounds.due("putBack(1)", y.putBack(1), 10);
        Bounds.sentence(7, "-2; -5: it isn't done");
        StubKeep z = moods();
        int[] want = {-5, 2, 4, -5};
        for (int d = 0; d < 4; d++) Bounds.due("putBack(" + d + ")", z.putBack(d), want[d]);
        StubKeep three = Bounds.of("life room 9;" + Bounds.doings(3));
        for (int d : NO_DOING_OF_THREE) Bounds.due("putBack(" + d + ")", three.putBack(d), -2);
    }

    private static void open() {
        Bounds.sentence(8, "DOINGS that can be DONE now, as bits");
        Bounds.due("open() without a life", new StubKeep().open(), 0);
        Bounds.due("open() of none", Bounds.of("life room 9;").open(), 0);
        StubKeep all = Bounds.of("life room 0;" + Bounds.doings(8));
        Bounds.due("open(): all, without ROOM", all.open(), 255);
        for (int d = 0; d < 8; d++) all.does(d);
        Bounds.due("open(): all are done", all.open(), 0);
        StubKeep x = chain(8);
        for (int d = 0; d < 8; d++) {
            Bounds.due("open()", x.open(), 1 << d);
            x.does(d);
        }
        Bounds.due("open()", x.open(), 0);
        Bounds.due("open(): OPEN and FORGED ones", moods().open(), 9);
        StubKeep y = Bounds.of("life room 9;doing size 1;doing size 1 needs 0;");
        y.forge(0);
        Bounds.due("open(): a FORGED one isn't done", y.open(), 1);
        y.does(0);
        y.drop(0);
        Bounds.due("open(): a BARE one is", y.open(), 2);
    }

    // ---- 9

    private static void doRoom() {
        Bounds.sentence(9, "it is SHOWN, if there is ROOM for its stub .. else BARE");
        for (int size = 1; size <= 9; size++) {
            Bounds.due("just ROOM", Bounds.of("life room " + size + ";doing size " + size + ";").does(0), 1);
            Bounds.due("one short", Bounds.of("life room " + (size - 1) + ";doing size " + size + ";").does(0), 2);
        }
        StubKeep x = Bounds.of("life room 40;" + "doing size 9;".repeat(4) + "doing size 5;doing size 4;doing size 1;");
        for (int d = 0; d < 4; d++) Bounds.due("does(" + d + ")", x.does(d), 1);
        Bounds.due("does(4): 5 in 4", x.does(4), 2);
        Bounds.due("does(5): 4 in 4", x.does(5), 1);
        Bounds.due("does(6): 1 in 0", x.does(6), 2);
        Bounds.due("count(3)", x.count(3), 0);
        StubKeep y = Bounds.of("life room 3;doing size 2;doing size 2;");
        y.forge(0);
        Bounds.due("does(1): a false stub takes ROOM", y.does(1), 2);
        Bounds.sentence(9, "and the law keeps holds (without one: always)");
        Bounds.due("it doesn't", Bounds.of("life room 9;doing size 1;keeps:1=2;").does(0), 2);
        Bounds.due("it does", Bounds.of("life room 9;doing size 1;keeps:1=1;").does(0), 1);
        Bounds.due("it does, without ROOM", Bounds.of("life room 0;doing size 1;keeps:1=1;").does(0), 2);
        Bounds.due("none", Bounds.of("life room 1;doing size 1;").does(0), 1);
        Bounds.sentence(9, "OPEN or FORGED (the false stub goes) .. all as it is when the false one is gone");
        StubKeep z = Bounds.of("life room 5;doing size 5;keeps:held=0 and left=5;");
        z.forge(0);
        Bounds.due("does(0): its own ROOM", z.does(0), 1);
        StubKeep w = Bounds.of("life room 5;doing size 5;keeps:1=2;");
        w.forge(0);
        Bounds.due("does(0): BARE", w.does(0), 2);
        Bounds.due("count(5): the false one is gone", w.count(5), 0);
        Bounds.due("count(3)", w.count(3), 5);
    }

    private static void doWhyNot() {
        Bounds.sentence(9, "-11 .. 1 no such DOING");
        StubKeep three = Bounds.of("life room 9;" + Bounds.doings(3));
        for (int d : NO_DOING_OF_THREE) Bounds.due("does(" + d + ")", three.does(d), -11);
        Bounds.due("does(2)", three.does(2), 1);
        StubKeep eight = Bounds.of("life room 9;" + Bounds.doings(8));
        for (int d : new int[] {8, 9, 10}) Bounds.due("does(" + d + ")", eight.does(d), -11);
        Bounds.due("does(7)", eight.does(7), 1);
        Bounds.due("does(0) without a life", new StubKeep().does(0), -11);
        Bounds.sentence(9, "-12 .. 2 it is as it must not be (DO: done)");
        StubKeep x = moods();
        Bounds.due("does(1): SHOWN", x.does(1), -12);
        Bounds.due("does(2): BARE", x.does(2), -12);
        Bounds.due("does(0): OPEN", x.does(0), 1);
        Bounds.due("does(3): FORGED", x.does(3), 1);
        Bounds.sentence(9, "-13 .. 3 one that it needs isn't done");
        StubKeep y = Bounds.of("life room 9;" + Bounds.doings(2) + "doing size 1 needs 0 needs 1;doing size 1 needs 2;");
        Bounds.due("does(2): neither", y.does(2), -13);
        y.does(1);
        Bounds.due("does(2): one of two", y.does(2), -13);
        y.forge(0);
        Bounds.due("does(2): the other is FORGED", y.does(2), -13);
        y.forge(2);
        Bounds.due("does(2): FORGED itself", y.does(2), -13);
        Bounds.due("does(3)", y.does(3), -13);
        y.does(0);
        y.drop(0);
        Bounds.due("does(2): one is BARE", y.does(2), 1);
        Bounds.due("does(3)", y.does(3), 1);
    }

    // ---- 10, 11

    private static void drop() {
        Bounds.sentence(10, "SHOWN becomes BARE, FORGED becomes OPEN .. how many stubs are in the lining then");
        StubKeep x = moods();
        Bounds.due("drop(1)", x.drop(1), 1);
        Bounds.due("doing(1, 0)", x.doing(1, 0), 2);
        Bounds.due("drop(3)", x.drop(3), 0);
        Bounds.due("doing(3, 0)", x.doing(3, 0), 0);
        StubKeep full = Bounds.of("life room 40;" + Bounds.doings(8));
        for (int d = 0; d < 8; d++) if (d % 2 == 0) full.does(d); else full.forge(d);
        for (int d = 0; d < 8; d++) Bounds.due("drop(" + d + ")", full.drop(d), 7 - d);
        Bounds.due("count(4)", full.count(4), 85);
        Bounds.due("count(3)", full.count(3), 40);
        Bounds.sentence(10, "-11, -12 .. (DROP: OPEN, BARE)");
        StubKeep y = moods();
        Bounds.due("drop(0): OPEN", y.drop(0), -12);
        Bounds.due("drop(2): BARE", y.drop(2), -12);
        StubKeep three = Bounds.of("life room 9;" + Bounds.doings(3));
        for (int d = 0; d < 3; d++) three.does(d);
        for (int d : NO_DOING_OF_THREE) Bounds.due("drop(" + d + ")", three.drop(d), -11);
        Bounds.due("drop(2)", three.drop(2), 2);
        Bounds.due("drop(0) without a life", new StubKeep().drop(0), -11);
    }

    private static void forge() {
        Bounds.sentence(11, "To FORGE one that is OPEN, if there is ROOM .. how much ROOM is left then");
        for (int size = 1; size <= 9; size++) {
            Bounds.due("just ROOM", Bounds.of("life room " + size + ";doing size " + size + ";").forge(0), 0);
            Bounds.due("one more", Bounds.of("life room " + (size + 1) + ";doing size " + size + ";").forge(0), 1);
            Bounds.due("one short", Bounds.of("life room " + (size - 1) + ";doing size " + size + ";").forge(0), -14);
        }
        Bounds.due("40 less 1", Bounds.of("life room 40;doing size 1;").forge(0), 39);
        Bounds.due("neither law nor needs count", Bounds.of("life room 9;doing size 1;doing size 1 needs 0;keeps:1=2;").forge(1), 8);
        Bounds.sentence(11, "-11, -12, -14 .. (.. FORGE: not OPEN) .. 4 there is no ROOM (FORGE)");
        StubKeep x = moods();
        for (int d = 1; d < 4; d++) Bounds.due("forge(" + d + ")", x.forge(d), -12);
        Bounds.due("forge(0)", x.forge(0), 6);
        StubKeep y = Bounds.of("life room 2;doing size 2;doing size 1;doing size 1;");
        y.does(0);
        Bounds.due("forge(0): not OPEN ahead of no ROOM", y.forge(0), -12);
        Bounds.due("forge(1)", y.forge(1), -14);
        y.does(1);
        Bounds.due("forge(1): BARE ahead of no ROOM", y.forge(1), -12);
        y.drop(0);
        y.forge(2);
        Bounds.due("forge(2): FORGED", y.forge(2), -12);
        StubKeep three = Bounds.of("life room 0;" + Bounds.doings(3));
        for (int d : NO_DOING_OF_THREE) Bounds.due("forge(" + d + ")", three.forge(d), -11);
        Bounds.due("forge(0) without a life", new StubKeep().forge(0), -11);
    }

    // ---- 12, 13

    private static void ask() {
        Bounds.sentence(12, "if it is SHOWN or OPEN, nothing happens");
        StubKeep x = moods();
        Bounds.due("ask(0)", x.ask(0), 0);
        Bounds.due("ask(1)", x.ask(1), 0);
        for (int d = 0; d < 4; d++) Bounds.due("doing(" + d + ", 0)", x.doing(d, 0), d);
        Bounds.sentence(12, "if it is FORGED and the law passes holds (without one: never), nothing; else one is PUT BACK");
        Bounds.due("ask(3): no law", x.ask(3), 8);
        Bounds.due("doing(3, 0)", x.doing(3, 0), 0);
        for (int slip = 0; slip <= 9; slip++) {
            StubKeep y = Bounds.of("life room 9;doing size 3 edge 4;passes:slip<5 and size=3 and edge=4 and held=1 and left=6 and doing=0;");
            y.slip(slip);
            y.forge(0);
            Bounds.due("ask(0) with SLIP " + slip, y.ask(0), slip < 5 ? 0 : 1);
            Bounds.due("count(6)", y.count(6), slip < 5 ? 1 : 0);
        }
        Bounds.sentence(12, "it is OPEN then, so are all done ones that need it, all that need these, and so on");
        Bounds.due("ask(2): BARE", x.ask(2), 4);
        StubKeep all = chain(8);
        for (int d = 0; d < 8; d++) all.does(d);
        all.drop(3);
        all.drop(5);
        Bounds.due("ask(5)", all.ask(5), 224);
        Bounds.due("count(4)", all.count(4), 31);
        Bounds.due("count(5): their stubs are gone", all.count(5), 23);
        Bounds.due("count(3)", all.count(3), 36);
        all.drop(0);
        Bounds.due("ask(0)", all.ask(0), 31);
        Bounds.due("count(4)", all.count(4), 0);
        StubKeep forged = chain(3);
        forged.does(0);
        forged.drop(0);
        forged.forge(1);
        forged.forge(2);
        Bounds.due("ask(0): FORGED ones stay", forged.ask(0), 1);
        Bounds.due("count(6)", forged.count(6), 6);
        Bounds.due("ask(1): by a FORGED one it alone", forged.ask(1), 2);
        Bounds.due("count(6)", forged.count(6), 4);
        Bounds.sentence(12, "-11");
        StubKeep three = Bounds.of("life room 9;" + Bounds.doings(3));
        for (int d : NO_DOING_OF_THREE) Bounds.due("ask(" + d + ")", three.ask(d), -11);
        Bounds.due("ask(2)", three.ask(2), 0);
        Bounds.due("ask(0) without a life", new StubKeep().ask(0), -11);
    }

    /** SIZES 1 to 5 in a ROOM of 15, with edges: every lining is asked, in one object, one behind the other. */
    private static StubKeep five(String laws) {
        StringBuilder text = new StringBuilder("life room 15;");
        for (int d = 0; d < 5; d++) text.append("doing size ").append(d + 1).append(" edge ").append(9 - 2 * d).append(';');
        return Bounds.of(text + laws);
    }

    private static void setLining(StubKeep x, int lining) {
        for (int d = 0; d < 5; d++) {
            boolean there = (x.count(5) >> d & 1) == 1;
            if ((lining >> d & 1) == 1 && !there) x.forge(d);
            if ((lining >> d & 1) == 0 && there) x.drop(d);
        }
    }

    private static int leftBy(int lining) {
        int left = 15;
        for (int d = 0; d < 5; d++) if ((lining >> d & 1) == 1) left -= d + 1;
        return left;
    }

    private static void laws() {
        Bounds.sentence(12, "In both laws: doing, size, edge .. held .. left .. all ahead; in passes slip: the SLIP");
        StubKeep x = five("passes:slip*4+held*2<doing*5+left*2-edge+7;");
        for (int lining = 0; lining < 32; lining++) {
            setLining(x, lining);
            for (int d = 0; d < 5; d++) {
                if ((lining >> d & 1) == 0) continue;
                for (int slip = 0; slip <= 9; slip += 3) {
                    boolean passes = slip * 4 + Integer.bitCount(lining) * 2 < d * 5 + leftBy(lining) * 2 - (9 - 2 * d) + 7;
                    x.slip(slip);
                    Bounds.due("ask(" + d + ") with SLIP " + slip + ", lining " + lining, x.ask(d), passes ? 0 : 1 << d);
                    x.undo(1);
                }
            }
        }
        Bounds.sentence(9, "In both laws: doing, size, edge .. held .. left .. all ahead");
        StubKeep y = five("keeps:held*4+size<doing*7+left-edge;");
        for (int lining = 0; lining < 32; lining++) {
            setLining(y, lining);
            for (int d = 0; d < 5; d++) {
                int ahead = lining & ~(1 << d);
                boolean keeps = Integer.bitCount(ahead) * 4 + d + 1 < d * 7 + leftBy(ahead) - (9 - 2 * d);
                Bounds.due("does(" + d + "), lining " + lining, y.does(d), keeps ? 1 : 2);
                y.undo(1);
            }
        }
    }

    /** Whether the one DOING, FORGED, passes; whether its stub is kept. */
    private static void ruled(StubKeep x, String when, boolean passes, boolean keeps) {
        x.forge(0);
        Bounds.due("ask(0) " + when, x.ask(0), passes ? 0 : 1);
        x.undo(2);
        Bounds.due("does(0) " + when, x.does(0), keeps ? 1 : 2);
        x.undo(1);
    }

    private static void lawsOfEachLife() {
        Bounds.sentence(12, "THE LIFE: the laws are those of the latest one, or of an IMAGE");
        String[] laws = {"passes:1=1;keeps:1=2;", "passes:1=2;keeps:1=1;", "", "passes:slip=0;keeps:held=0;", "passes:slip=1;keeps:held=1;"};
        boolean[] passes = {true, false, false, true, false};
        boolean[] keeps = {false, true, true, true, false};
        StubKeep x = new StubKeep();
        for (int a = 0; a < laws.length; a++) {
            for (int b = 0; b < laws.length; b++) {
                Bounds.tell(x, "life room 9;doing size 1;" + laws[a]);
                ruled(x, "of the first life", passes[a], keeps[a]);
                x.image(0);
                Bounds.tell(x, "life room 9;doing size 1;" + laws[b]);
                ruled(x, "of the second life", passes[b], keeps[b]);
                Bounds.tell(x, "life room 9;doing size 1;" + laws[a] + "door 10;");
                ruled(x, "behind a FAULT", passes[b], keeps[b]);
                x.restore(0);
                ruled(x, "of the IMAGE", passes[a], keeps[a]);
            }
        }
    }

    private static void slip() {
        Bounds.sentence(13, "To have a SLIP (0 to 9): what it was. -11");
        StubKeep x = Bounds.of("life room 9;slip 6;");
        for (int n : new int[] {Bounds.LOW, -2, -1, 10, 11, 40, 49, Bounds.HIGH}) Bounds.due("slip(" + n + ")", x.slip(n), -11);
        Bounds.due("count(7)", x.count(7), 6);
        int was = 6;
        for (int n = 0; n <= 9; n++) {
            Bounds.due("slip(" + n + ")", x.slip(n), was);
            Bounds.due("count(7)", x.count(7), n);
            was = n;
        }
        StubKeep none = new StubKeep();
        Bounds.due("slip(9) without a life", none.slip(9), 0);
        Bounds.due("slip(0)", none.slip(0), 9);
    }

    // ---- 14

    private static void undo() {
        Bounds.sentence(14, "n calls (1 to 10) are UNDONE: how many still can be");
        for (int made = 1; made <= 10; made++) {
            for (int n = 1; n <= made; n++) {
                StubKeep x = new StubKeep();
                for (int i = 1; i <= made; i++) x.slip(i % 10);
                Bounds.due("undo(" + n + ") of " + made, x.undo(n), made - n);
                Bounds.due("count(7)", x.count(7), (made - n) % 10);
                Bounds.due("count(8)", x.count(8), made - n);
            }
        }
        Bounds.sentence(14, "-3: n, more than can be");
        for (int made = 0; made <= 12; made++) {
            StubKeep x = new StubKeep();
            for (int i = 1; i <= made; i++) x.slip(i % 10);
            int can = Math.min(10, made);
            for (int n : new int[] {Bounds.LOW, -1, 0, can + 1, 11, 12, Bounds.HIGH}) Bounds.due("undo(" + n + ") of " + made, x.undo(n), -3);
            Bounds.due("count(8)", x.count(8), can);
            Bounds.due("count(7)", x.count(7), made % 10);
        }
        Bounds.sentence(14, "the latest first, 10 at most (eldest are forgotten)");
        StubKeep x = new StubKeep();
        for (int i = 1; i <= 25; i++) {
            x.slip(i % 10);
            Bounds.due("count(8)", x.count(8), Math.min(10, i));
        }
        for (int i = 24; i >= 15; i--) {
            Bounds.due("undo(1)", x.undo(1), i - 15);
            Bounds.due("count(7)", x.count(7), i % 10);
        }
        Bounds.due("undo(1): the 15th is forgotten", x.undo(1), -3);
        x.slip(3);
        Bounds.due("count(8): what is UNDONE can't be UNDONE", x.count(8), 1);
        Bounds.due("undo(1)", x.undo(1), 0);
        Bounds.due("count(7)", x.count(7), 5);
    }

    private static void undoWhat() {
        Bounds.sentence(14, "how all DOINGS are, SLIP");
        StubKeep x = moods();
        x.slip(7);
        x.does(0);
        x.drop(1);
        x.ask(2);
        x.ask(3);
        Bounds.due("count(8)", x.count(8), 9);
        Bounds.due("undo(5)", x.undo(5), 4);
        for (int d = 0; d < 4; d++) Bounds.due("doing(" + d + ", 0)", x.doing(d, 0), d);
        Bounds.due("count(7)", x.count(7), 0);
        Bounds.sentence(14, "Calls that did some (an ASK does, whatever happens) can be UNDONE each as a whole");
        StubKeep y = Bounds.of("life room 9;" + Bounds.doings(3));
        y.ask(0);
        Bounds.due("count(8): an ASK of an OPEN one", y.count(8), 1);
        y.slip(0);
        Bounds.due("count(8): the same SLIP", y.count(8), 2);
        Bounds.tray(y, 0, 0, 1, 2, 45, 10);
        y.perform(0);
        Bounds.due("count(8): five DEEDS of a TRAY", y.count(8), 3);
        y.year(1, 40);
        Bounds.due("count(8): a YEAR", y.count(8), 4);
        Bounds.due("undo(1)", y.undo(1), 3);
        Bounds.due("count(4)", y.count(4), 7);
        Bounds.due("undo(1)", y.undo(1), 2);
        Bounds.due("count(4)", y.count(4), 0);
        Bounds.due("count(7)", y.count(7), 0);
        Bounds.tray(y, 0, 10, 0);
        Bounds.due("perform(0): none can be", y.perform(0), 0);
        Bounds.due("count(8)", y.count(8), 2);
        Bounds.tray(y, 0, 33);
        Bounds.due("perform(0): ASKED for none such", y.perform(0), 0);
        Bounds.due("count(8)", y.count(8), 2);
        Bounds.tray(y, 0, 32);
        Bounds.due("perform(0): ASKED for an OPEN one", y.perform(0), 1);
        Bounds.due("count(8)", y.count(8), 3);
        StubKeep none = new StubKeep();
        Bounds.due("year: none can be", none.year(1, 40), 0);
        Bounds.due("count(8)", none.count(8), 0);
    }

    // ---- 15, 16

    private static void judged(StubKeep x, int tray, int place, int why, int done, int lining) {
        int[] want = {place, why, done, lining};
        for (int what = 0; what < 4; what++) Bounds.due("judge(" + tray + ", " + what + ")", x.judge(tray, what), want[what]);
    }

    private static void judge() {
        Bounds.sentence(15, "DEEDS, judged as if done, what 0: the first place that can't be (NONE), 1: why (0)");
        StubKeep x = Bounds.of("life room 9;" + Bounds.doings(3));
        Bounds.tray(x, 0);
        judged(x, 0, -1, 0, 0, 0);
        Bounds.tray(x, 0, 10);
        judged(x, 0, 0, 2, 0, 0);
        Bounds.tray(x, 0, Bounds.times(40, 32));
        judged(x, 0, -1, 0, 0, 0);
        x.write(0, 39, 12);
        judged(x, 0, 39, 2, 0, 0);
        x.write(0, 0, 99);
        judged(x, 0, 0, 1, 0, 0);
        Bounds.sentence(15, "2: what is done then, as bits, 3: stubs in the lining then, as bits");
        Bounds.tray(x, 1, 0, 1, 10, 22);
        judged(x, 1, -1, 0, 3, 6);
        Bounds.tray(x, 1, 0, 1, 10, 10, 2);
        judged(x, 1, 3, 2, 3, 2);
        Bounds.due("count(4): as if", x.count(4), 0);
        Bounds.due("count(8)", x.count(8), 0);
        StubKeep full = Bounds.of("life room 8;" + Bounds.doings(8));
        Bounds.tray(full, 3, 0, 1, 2, 3, 4, 5, 6, 7);
        judged(full, 3, -1, 0, 255, 255);
        Bounds.sentence(15, "-2: the TRAY, what; -6");
        for (int t : new int[] {Bounds.LOW, -1, 4, 5, Bounds.HIGH}) Bounds.due("judge(" + t + ", 0)", x.judge(t, 0), -2);
        for (int what : new int[] {Bounds.LOW, -1, 4, 5, Bounds.HIGH}) {
            Bounds.due("judge(0, " + what + ")", x.judge(0, what), -2);
            Bounds.due("judge(2, " + what + "): ahead of -6", x.judge(2, what), -2);
        }
        for (int what = 0; what < 4; what++) {
            Bounds.due("judge(2, " + what + ")", x.judge(2, what), -6);
            Bounds.due("judge(3, " + what + ")", x.judge(3, what), -6);
        }
    }

    private static void why(StubKeep x, long deed, int why) {
        Bounds.tray(x, 0, deed);
        Bounds.due("judge(0, 1) of " + deed, x.judge(0, 1), why);
        Bounds.due("judge(0, 0) of " + deed, x.judge(0, 0), why == 0 ? -1 : 0);
    }

    private static void deeds() {
        Bounds.sentence(15, "0 to 9: to DO v; 10 to 19: to DROP v - 10; 20 to 29: to FORGE v - 20; 30 to 39: v - 30 is ASKED for; 40 to 49: SLIP v - 40; others: 1");
        StubKeep x = Bounds.of("life room 40;" + Bounds.doings(8));
        for (int d = 0; d < 10; d++) {
            why(x, d, d < 8 ? 0 : 1);
            why(x, 10 + d, d < 8 ? 2 : 1);
            why(x, 20 + d, d < 8 ? 0 : 1);
            why(x, 30 + d, d < 8 ? 0 : 1);
            why(x, 40 + d, 0);
        }
        for (long v : new long[] {-1, -10, 50, 51, 99, 127, -128, 256, 1L << 32, (1L << 32) + 40, Long.MIN_VALUE, Long.MAX_VALUE}) why(x, v, 1);
        StubKeep y = Bounds.of("life room 1;doing size 1;doing size 1;doing size 1 needs 1;");
        y.does(0);
        why(y, 0, 2);
        why(y, 2, 3);
        why(y, 21, 4);
        why(y, 20, 2);
        why(y, 10, 0);
        why(y, 23, 1);
        StubKeep slips = new StubKeep();
        for (int n = 0; n <= 9; n++) {
            Bounds.tray(slips, 0, 40 + n);
            Bounds.due("perform of " + (40 + n), slips.perform(0), 1);
            Bounds.due("count(7)", slips.count(7), n);
        }
    }

    private static void perform() {
        Bounds.sentence(16, "They are done, till one can't be: how many");
        StubKeep x = Bounds.of("life room 9;" + Bounds.doings(3));
        Bounds.tray(x, 0);
        Bounds.due("perform of none", x.perform(0), 0);
        Bounds.tray(x, 0, 3, 0);
        Bounds.due("the first can't be", x.perform(0), 0);
        Bounds.due("count(4)", x.count(4), 0);
        Bounds.tray(x, 0, 0, 1, 1, 2);
        Bounds.due("the third can't be", x.perform(0), 2);
        Bounds.due("count(4): what comes behind isn't done", x.count(4), 3);
        Bounds.tray(x, 0, 2);
        Bounds.due("perform of one", x.perform(0), 1);
        Bounds.tray(x, 0, Bounds.times(40, 44));
        x.write(0, 39, 49);
        Bounds.due("perform of 40", x.perform(0), 40);
        Bounds.due("count(7)", x.count(7), 9);
        x.write(0, 39, 50);
        Bounds.due("perform of 40", x.perform(0), 39);
        Bounds.due("count(7)", x.count(7), 4);
        Bounds.due("count(8)", x.count(8), 4);
        Bounds.sentence(16, "-2; -6");
        for (int t : new int[] {Bounds.LOW, -1, 4, Bounds.HIGH}) Bounds.due("perform(" + t + ")", x.perform(t), -2);
        for (int t = 1; t < 4; t++) Bounds.due("perform(" + t + ")", x.perform(t), -6);
        x.numbers(3, 0, 1);
        Bounds.due("perform(3)", x.perform(3), 0);
    }

    // ---- 17

    /** The YEAR's draws told by hand, on a twin. */
    private static int byHand(StubKeep x, int seed, int times) {
        int draw = seed;
        int could = 0;
        for (int i = 0; i < times; i++) {
            draw = draw * 1103515245 + 12345;
            int kind = (draw >>> 16) % 8;
            draw = draw * 1103515245 + 12345;
            int d = (draw >>> 16) % 8;
            int got = kind <= 3 ? x.does(d) : kind == 4 ? x.drop(d) : kind == 5 ? x.forge(d) : x.ask(d);
            if (got >= 0) could++;
        }
        return could;
    }

    private static void year() {
        Bounds.sentence(17, "so many times (1 to 40) .. how many could be");
        String text = "life room 6;" + Bounds.doings(5) + "doing size 2 needs 0;doing size 3 needs 5;";
        for (int seed : new int[] {0, 1, -1, 12345, -987654321, Bounds.LOW, Bounds.HIGH}) {
            for (int times : new int[] {1, 2, 3, 39, 40}) {
                StubKeep x = Bounds.of(text);
                StubKeep y = Bounds.of(text);
                Bounds.due("year(" + seed + ", " + times + ")", x.year(seed, times), byHand(y, seed, times));
                for (int what = 4; what <= 7; what++) Bounds.due("count(" + what + ")", x.count(what), y.count(what));
            }
        }
        Bounds.sentence(17, "-3: how many times");
        StubKeep x = Bounds.of(text);
        for (int times : new int[] {Bounds.LOW, -1, 0, 41, 42, Bounds.HIGH}) Bounds.due("year(1, " + times + ")", x.year(1, times), -3);
        Bounds.due("count(8)", x.count(8), 0);
    }

    public static void main(String[] args) {
        putBack();
        open();
        doRoom();
        doWhyNot();
        drop();
        forge();
        ask();
        laws();
        lawsOfEachLife();
        slip();
        undo();
        undoWhat();
        judge();
        deeds();
        perform();
        year();
        Bounds.finish(7, 17);
    }
}
