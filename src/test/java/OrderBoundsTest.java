import java.util.Arrays;

/** The bounds of orders, halves, slips and linings: promises 27 to 35. */
public final class OrderBoundsTest {
    private static final int[] NO_TRAY = {Bounds.LOW, -2, -1, 4, 5, 40, Bounds.HIGH};

    private static StubKeep doneAll(String text) {
        StubKeep x = Bounds.of(text);
        for (int d = 0; d < x.count(0); d++) x.does(d);
        return x;
    }

    private static StubKeep free(int n) { return doneAll("life room 40;" + Bounds.doings(n)); }

    private static StubKeep chain(int n) {
        StringBuilder text = new StringBuilder("life room 40;doing size 1;");
        for (int d = 1; d < n; d++) text.append("doing size 1 needs ").append(d - 1).append(';');
        return doneAll(text.toString());
    }

    /** 0 SHOWN, 1 BARE, 2 OPEN, 3 FORGED. */
    private static StubKeep moods() {
        StubKeep x = Bounds.of("life room 9;" + Bounds.doings(4));
        x.does(0);
        x.does(1);
        x.drop(1);
        x.forge(3);
        return x;
    }

    private static int told(StubKeep x, long... numbers) {
        Bounds.tray(x, 0, numbers);
        return x.orders(0);
    }

    // ---- 27

    private static void orders() {
        Bounds.sentence(27, "all orders in which those done now can have been done (each behind all it needs)");
        int factorial = 1;
        for (int n = 1; n <= 8; n++) {
            factorial *= n;
            Bounds.due("orders of " + n, told(free(n)), factorial);
            Bounds.due("orders of a chain of " + n, told(chain(n)), 1);
        }
        Bounds.due("orders: those done now alone", told(moods()), 2);
        Bounds.due("orders: one is needed by seven", told(doneAll("life room 0;doing size 1;" + "doing size 1 needs 0;".repeat(7))), 5040);
        StubKeep tree = doneAll("life room 9;" + Bounds.doings(2) + "doing size 1 needs 0 needs 1;doing size 1 needs 1;");
        Bounds.due("orders of a tree", told(tree), 5);
        tree.drop(1);
        tree.ask(1);
        Bounds.due("orders: put back", told(tree), 1);
        Bounds.sentence(27, "1, if nothing is done and nothing told");
        Bounds.due("orders without a life", told(new StubKeep()), 1);
        StubKeep none = Bounds.of("life room 9;" + Bounds.doings(8));
        Bounds.due("orders of none done", told(none), 1);
        none.forge(0);
        Bounds.due("orders: FORGED isn't done", told(none), 1);
        Bounds.due("orders: nothing is done, but told", told(none, 1), -3);
    }

    private static void ordersTold() {
        Bounds.sentence(27, "10 times a DOING, and one that was done later");
        StubKeep x = free(4);
        for (int d = 0; d < 4; d++) for (int e = 0; e < 4; e++) if (d != e) Bounds.due("orders told " + d + e, told(x, 10 * d + e), 12);
        Bounds.due("told twice", told(x, 1, 1), 12);
        Bounds.due("told two", told(x, 1, 23), 6);
        Bounds.due("told a row", told(x, 32, 21, 10), 1);
        Bounds.due("told both ways", told(x, 1, 10), 0);
        Bounds.due("told a ring", told(x, 1, 12, 23, 30), 0);
        StubKeep all = free(8);
        Bounds.due("told 76", told(all, 76), 20160);
        Bounds.due("told 7", told(all, 7), 20160);
        Bounds.due("told 70", told(all, 70), 20160);
        Bounds.due("told what its needs tell", told(chain(3), 1), 1);
        Bounds.due("told against its needs", told(chain(3), 10), 0);
        Bounds.due("told against what its needs need", told(chain(3), 20), 0);
        Bounds.sentence(27, "-2: the TRAY; -6; -4: more than 12 numbers");
        for (int t : NO_TRAY) Bounds.due("orders(" + t + ")", x.orders(t), -2);
        for (int t = 1; t < 4; t++) Bounds.due("orders(" + t + ")", x.orders(t), -6);
        for (int n = 0; n <= 40; n++) {
            Bounds.due("orders told " + n, told(x, Bounds.times(n, 1)), n > 12 ? -4 : n == 0 ? 24 : 12);
            Bounds.due("orders told " + n + " wrong ones", told(x, Bounds.times(n, 11)), n > 12 ? -4 : n == 0 ? 24 : -3);
        }
        Bounds.due("the 12th counts", told(x, 1, 1, 1, 1, 1, 1, 1, 1, 1, 1, 1, 10), 0);
        Bounds.due("the 12th is wrong", told(x, 1, 1, 1, 1, 1, 1, 1, 1, 1, 1, 1, 0), -3);
        Bounds.sentence(27, "-3: one isn't two done ones, tells one of itself");
        StubKeep y = moods();
        for (int v = -12; v <= 130; v++) Bounds.due("orders told " + v, told(y, v), v == 1 || v == 10 ? 1 : -3);
        for (long v : new long[] {Long.MIN_VALUE, -100, 1L << 32, (1L << 32) + 1, (1L << 33) + 10, 256 + 1, Long.MAX_VALUE}) {
            Bounds.due("orders told " + v, told(y, 1, v), -3);
        }
        for (int d = 0; d < 8; d++) Bounds.due("orders told one of itself", told(all, 11 * d), -3);
        for (int v : new int[] {8, 9, 18, 80, 81, 90, 97, 98}) Bounds.due("orders told " + v, told(all, v), -3);
    }

    // ---- 28

    private static void order() {
        Bounds.sentence(28, "The i-th DOING of the first ORDER");
        StubKeep x = free(8);
        Bounds.tray(x, 0);
        for (int i = 0; i < 8; i++) Bounds.due("order(0, " + i + ")", x.order(0, i), i);
        Bounds.tray(x, 0, 76, 65, 54, 43, 32, 21, 10);
        for (int i = 0; i < 8; i++) Bounds.due("order(0, " + i + "): told backwards", x.order(0, i), 7 - i);
        Bounds.tray(x, 0, 70);
        int[] want = {1, 2, 3, 4, 5, 6, 7, 0};
        for (int i = 0; i < 8; i++) Bounds.due("order(0, " + i + "): told 70", x.order(0, i), want[i]);
        StubKeep y = doneAll("life room 9;" + Bounds.doings(2) + "doing size 1 needs 1;doing size 1 needs 0;");
        Bounds.tray(y, 0, 20);
        int[] first = {1, 2, 0, 3};
        for (int i = 0; i < 4; i++) Bounds.due("order(0, " + i + ")", y.order(0, i), first[i]);
        Bounds.sentence(28, "NONE: not so many, there is none");
        for (int i : new int[] {8, 9, 31, 32, Bounds.HIGH}) Bounds.due("order(0, " + i + ")", x.order(0, i), -1);
        for (int i : new int[] {4, 5, Bounds.HIGH}) Bounds.due("order(0, " + i + ")", y.order(0, i), -1);
        Bounds.tray(y, 0, 1, 10);
        for (int i : new int[] {0, 3, 4, Bounds.HIGH}) Bounds.due("order(0, " + i + "): there is none", y.order(0, i), -1);
        StubKeep none = new StubKeep();
        Bounds.tray(none, 0);
        Bounds.due("order(0, 0): nothing is done", none.order(0, 0), -1);
        StubKeep some = moods();
        Bounds.tray(some, 0);
        int[] done = {0, 1, -1, -1};
        for (int i = 0; i < 4; i++) Bounds.due("order(0, " + i + "): done ones alone", some.order(0, i), done[i]);
        Bounds.sentence(28, "as orders(); -3: also i is below 0");
        for (int t : NO_TRAY) for (int i : new int[] {-1, 0, 99}) Bounds.due("order(" + t + ", " + i + ")", x.order(t, i), -2);
        for (int i : new int[] {-1, 0, 99}) Bounds.due("order(1, " + i + ")", x.order(1, i), -6);
        Bounds.tray(x, 2, Bounds.times(13, 1));
        for (int i : new int[] {-1, 0, 99}) Bounds.due("order(2, " + i + ")", x.order(2, i), -4);
        x.numbers(2, 0, 12);
        for (int i : new int[] {-1, 0, 99}) Bounds.due("order(2, " + i + "): 12 times one of itself", x.order(2, i), -3);
        Bounds.tray(x, 2, 1);
        for (int i : new int[] {Bounds.LOW, -2, -1}) {
            Bounds.due("order(2, " + i + ")", x.order(2, i), -3);
            Bounds.due("order(0, " + i + "): there is none", y.order(0, i), -3);
        }
        Bounds.due("order(2, 0)", x.order(2, 0), 0);
    }

    // ---- 29

    private static void ahead() {
        Bounds.sentence(29, "In how many ORDERS one done one was done ahead of another one");
        StubKeep x = free(8);
        Bounds.tray(x, 0);
        for (int d = 0; d < 8; d++) for (int e = 0; e < 8; e++) if (d != e) Bounds.due("ahead(0, " + d + ", " + e + ")", x.ahead(0, d, e), 20160);
        StubKeep row = chain(8);
        Bounds.tray(row, 0);
        for (int d = 0; d < 8; d++) for (int e = 0; e < 8; e++) if (d != e) Bounds.due("ahead(0, " + d + ", " + e + ") of a chain", row.ahead(0, d, e), d < e ? 1 : 0);
        StubKeep y = free(3);
        Bounds.tray(y, 0, 1);
        int[][] want = {{0, 3, 2}, {0, 0, 1}, {1, 2, 0}};
        for (int d = 0; d < 3; d++) for (int e = 0; e < 3; e++) if (d != e) Bounds.due("ahead(0, " + d + ", " + e + ") told 1", y.ahead(0, d, e), want[d][e]);
        Bounds.due("orders(0): nothing of it stays", y.orders(0), 3);
        Bounds.tray(y, 0, 1, 10);
        Bounds.due("ahead(0, 0, 1): no ORDER", y.ahead(0, 0, 1), 0);
        Bounds.tray(y, 0, Bounds.times(12, 1));
        Bounds.due("ahead(0, 2, 0) told 12", y.ahead(0, 2, 0), 1);
        Bounds.sentence(29, "-2: also the DOINGS, both one");
        for (int t : NO_TRAY) Bounds.due("ahead(" + t + ", 0, 1)", y.ahead(t, 0, 1), -2);
        for (int bad : new int[] {Bounds.LOW, -1, 3, 4, 7, 8, Bounds.HIGH}) {
            Bounds.due("ahead(0, " + bad + ", 0)", y.ahead(0, bad, 0), -2);
            Bounds.due("ahead(0, 0, " + bad + ")", y.ahead(0, 0, bad), -2);
            Bounds.due("ahead(1, " + bad + ", 0): ahead of -6", y.ahead(1, bad, 0), -2);
        }
        for (int d = 0; d < 3; d++) {
            Bounds.due("ahead(0, " + d + ", " + d + ")", y.ahead(0, d, d), -2);
            Bounds.due("ahead(1, " + d + ", " + d + "): ahead of -6", y.ahead(1, d, d), -2);
        }
        Bounds.sentence(29, "then as orders(); -5: one isn't done (behind all)");
        StubKeep z = moods();
        Bounds.due("ahead(1, 0, 2): MISSING", z.ahead(1, 0, 2), -6);
        Bounds.tray(z, 0, Bounds.times(13, 1));
        Bounds.due("ahead(0, 0, 2): 13 numbers", z.ahead(0, 0, 2), -4);
        Bounds.tray(z, 0, 2);
        Bounds.due("ahead(0, 0, 2): not two done ones", z.ahead(0, 0, 2), -3);
        Bounds.tray(z, 0, 1, 10);
        for (int d = 0; d < 2; d++) {
            for (int e = 2; e < 4; e++) {
                Bounds.due("ahead(0, " + d + ", " + e + "), no ORDER", z.ahead(0, d, e), -5);
                Bounds.due("ahead(0, " + e + ", " + d + "), no ORDER", z.ahead(0, e, d), -5);
            }
        }
        Bounds.due("ahead(0, 2, 3)", z.ahead(0, 2, 3), -5);
        Bounds.tray(z, 0);
        Bounds.due("ahead(0, 0, 2)", z.ahead(0, 0, 2), -5);
        Bounds.due("ahead(0, 1, 0)", z.ahead(0, 1, 0), 1);
    }

    // ---- 30, 31

    private static void joined(StubKeep x, String what, int over, int... doors) {
        int many = 0;
        for (int d = 0; d < doors.length; d++) {
            Bounds.due("join(" + (10 + d) + "): " + what, x.join(10 + d), doors[d]);
            if (doors[d] >= 0) many++;
        }
        Bounds.due("join(0): " + what, x.join(0), many);
        Bounds.due("over(): " + what, x.over(), over);
    }

    private static void join() {
        Bounds.sentence(30, "a stub of a SHOWN one and the half of a DOOR join, if their edges are 9 together");
        for (int edge = 0; edge <= 9; edge++) {
            for (int half = 0; half <= 9; half++) {
                StubKeep x = doneAll("life room 9;doing size 1 edge " + edge + ";door " + half + ";");
                boolean fit = edge + half == 9;
                joined(x, edge + " and " + half, fit ? 0 : 1, fit ? 0 : -1);
            }
        }
        StubKeep x = Bounds.of("life room 3;" + "doing size 1 edge 4;".repeat(4) + "door 5;door 5;");
        joined(x, "OPEN ones", 3, -1, -1, -1, -1);
        x.forge(0);
        x.does(1);
        joined(x, "FORGED and SHOWN", 2, -1, 0, -1, -1);
        x.does(2);
        x.does(3);
        joined(x, "no ROOM for 3: BARE", 0, -1, 0, 1, -1);
        x.drop(1);
        joined(x, "1 is BARE, too", 2, -1, -1, 0, -1);
        Bounds.sentence(30, "as many two and two as can be, each once at most; of like ones the first (.. least first, none behind all)");
        String eight = "doing size 1 edge 3;".repeat(8);
        for (int doors = 0; doors <= 8; doors++) {
            int[] want = new int[8];
            for (int d = 0; d < 8; d++) want[d] = d < doors ? d : -1;
            joined(doneAll("life room 40;" + eight + "door 6;".repeat(doors)), doors + " DOORS", 0, want);
        }
        for (int n = 0; n <= 8; n++) {
            int[] want = new int[n];
            for (int d = 0; d < n; d++) want[d] = d;
            joined(doneAll("life room 40;" + eight.substring(0, 20 * n) + "door 6;".repeat(8)), n + " DOINGS", 255 & -1 << n, want);
        }
        joined(doneAll("life room 9;doing size 1 edge 9;doing size 1;doing size 1 edge 9;doing size 1;door 9;door 0;door 9;door 9;"), "two kinds", 8, 1, 0, -1, 2);
        joined(doneAll("life room 9;doing size 1 edge 5;doing size 1 edge 4;doing size 1 edge 5;doing size 1 edge 5;door 5;door 4;door 3;door 4;"), "none behind all", 4, 1, 0, 3, -1);
        Bounds.sentence(30, "-2: what (10 and a DOING)");
        for (int what : new int[] {Bounds.LOW, -10, -1, 1, 2, 5, 8, 9, 14, 15, 17, 18, 20, Bounds.HIGH}) Bounds.due("join(" + what + ")", x.join(what), -2);
        for (int n = 0; n <= 8; n++) {
            StubKeep y = Bounds.of("life room 9;" + Bounds.doings(n));
            Bounds.due("join(9) of " + n, y.join(9), -2);
            for (int what = 10; what < 20; what++) Bounds.due("join(" + what + ") of " + n, y.join(what), what - 10 < n ? -1 : -2);
        }
        Bounds.due("join(0) without a life", new StubKeep().join(0), 0);
        Bounds.due("join(10) without a life", new StubKeep().join(10), -2);
        Bounds.sentence(31, "DOORS of which the halves are left over, as bits");
        Bounds.due("over() without a life", new StubKeep().over(), 0);
        for (int doors = 0; doors <= 8; doors++) Bounds.due("over() of " + doors, Bounds.of("life room 9;" + "door 9;".repeat(doors)).over(), (1 << doors) - 1);
        StubKeep z = doneAll("life room 9;" + Bounds.doings(8) + "door 8;door 9;".repeat(4));
        Bounds.due("over(): every other one", z.over(), 85);
        z.drop(0);
        Bounds.due("over(): the others stay, the last is over", z.over(), 85);
        for (int d = 1; d < 8; d++) z.drop(d);
        Bounds.due("over(): all", z.over(), 255);
    }

    // ---- 32, 33

    /** 0 to 3 of edge 2, 5, 8, 0 FORGED, 4 SHOWN, 5 BARE, 6 OPEN: one passes if its edge is above the SLIP. */
    private static StubKeep forged() {
        StubKeep x = Bounds.of("life room 9;doing size 1 edge 2;doing size 1 edge 5;doing size 1 edge 8;" + Bounds.doings(4) + "passes:edge>slip;");
        for (int d = 0; d < 4; d++) x.forge(d);
        x.does(4);
        x.does(5);
        x.drop(5);
        return x;
    }

    private static void passed(StubKeep x, int slips, int attempt, long... numbers) {
        Bounds.tray(x, 0, numbers);
        Bounds.due("slips told " + Arrays.toString(numbers), x.slips(0), slips);
        Bounds.due("attempt told " + Arrays.toString(numbers), x.attempt(0), attempt);
    }

    private static void slips() {
        Bounds.sentence(32, "2 times a FORGED one, and 1 if it passed when it was ASKED for, all being as now each time, else 0: SLIPS 0 to 9");
        StubKeep x = forged();
        int[] edges = {2, 5, 8, 0};
        for (int d = 0; d < 4; d++) {
            int by = (1 << edges[d]) - 1;
            Bounds.tray(x, 0, 2 * d + 1);
            Bounds.due("slips: " + d + " passed", x.slips(0), by);
            Bounds.tray(x, 0, 2 * d);
            Bounds.due("slips: " + d + " didn't", x.slips(0), 1023 & ~by);
        }
        for (int slip = 0; slip <= 9; slip++) {
            StubKeep y = Bounds.of("life room 9;doing size 1;passes:slip=" + slip + ";");
            y.forge(0);
            passed(y, 1 << slip, 0, 1);
            passed(y, 1023 & ~(1 << slip), 0, 0);
        }
        x.slip(7);
        Bounds.tray(x, 0, 5, 2);
        Bounds.due("slips: the SLIP one has doesn't count", x.slips(0), 224);
        StubKeep last = Bounds.of("life room 9;" + Bounds.doings(8) + "passes:doing=7 and slip<4;");
        for (int d = 0; d < 8; d++) last.forge(d);
        passed(last, 15, 0, 15);
        passed(last, 1008, 0, 14);
        StubKeep held = Bounds.of("life room 9;" + Bounds.doings(3) + "passes:slip=held;");
        held.forge(0);
        held.does(1);
        passed(held, 4, 0, 1);
        held.forge(2);
        passed(held, 8, 0, 1);
        held.drop(1);
        passed(held, 4, 0, 1);
        StubKeep lawless = Bounds.of("life room 9;doing size 1;");
        lawless.forge(0);
        passed(lawless, 1023, 0, 0);
        passed(lawless, 0, -1, 1);
        Bounds.sentence(32, "-2: the TRAY; -6; -4: not 1 to 12 numbers");
        for (int t : NO_TRAY) Bounds.due("slips(" + t + ")", x.slips(t), -2);
        for (int t = 1; t < 4; t++) Bounds.due("slips(" + t + ")", x.slips(t), -6);
        for (int n = 0; n <= 40; n++) {
            Bounds.tray(x, 0, Bounds.times(n, 1));
            Bounds.due("slips told " + n, x.slips(0), n < 1 || n > 12 ? -4 : 3);
            Bounds.tray(x, 0, Bounds.times(n, 99));
            Bounds.due("slips told " + n + " wrong ones", x.slips(0), n < 1 || n > 12 ? -4 : -3);
        }
        Bounds.tray(x, 0, 5, 5, 5, 5, 5, 5, 5, 5, 5, 5, 5, 2);
        Bounds.due("slips: the 12th counts", x.slips(0), 224);
        Bounds.due("slips without a life: -4", untold(0), -4);
        Bounds.sentence(32, "-3: one is no FORGED one");
        for (int v = -20; v <= 40; v++) {
            Bounds.tray(x, 0, 1, v);
            boolean may = v >= 0 && v < 8;
            Bounds.due("slips told 1 and " + v, Math.min(0, x.slips(0)), may ? 0 : -3);
        }
        for (long v : new long[] {Long.MIN_VALUE, -1, 256, 65536, 1L << 32, (1L << 33) + 1, Long.MAX_VALUE}) {
            Bounds.tray(x, 0, v, 1);
            Bounds.due("slips told " + v, x.slips(0), -3);
        }
        Bounds.due("slips without a life: -3", untold(1), -3);
    }

    /** One object for every lining: what passed in another lining doesn't count. */
    private static void slipsOfEachLining() {
        Bounds.sentence(32, "if it passed when it was ASKED for, all being as now each time");
        StubKeep x = Bounds.of("life room 15;doing size 1;doing size 2;doing size 3;doing size 4;doing size 5;passes:slip*3<doing*5+left-held;");
        for (int lining = 1; lining < 32; lining++) {
            int left = 15;
            for (int d = 0; d < 5; d++) {
                x.drop(d);
                if ((lining >> d & 1) == 1) {
                    x.forge(d);
                    left -= d + 1;
                }
            }
            for (int d = 0; d < 5; d++) {
                if ((lining >> d & 1) == 0) continue;
                int by = 0;
                for (int slip = 0; slip <= 9; slip++) if (slip * 3 < d * 5 + left - Integer.bitCount(lining)) by |= 1 << slip;
                Bounds.tray(x, 0, 2 * d + 1);
                Bounds.due("slips: " + d + " passed, lining " + lining, x.slips(0), by);
                Bounds.tray(x, 0, 2 * d);
                Bounds.due("slips: " + d + " didn't, lining " + lining, x.slips(0), 1023 & ~by);
            }
        }
    }

    private static int untold(int n) {
        StubKeep x = new StubKeep();
        x.numbers(0, 0, n);
        return x.slips(0);
    }

    private static void attempt() {
        Bounds.sentence(33, "the lesser number of these SLIPS by which it passes, or doesn't, is greatest, the first");
        StubKeep x = forged();
        passed(x, 1023, 1, 6);
        passed(x, 31, 0, 3);
        passed(x, 992, 2, 2);
        passed(x, 3, 0, 1);
        passed(x, 1020, 1, 0);
        passed(x, 28, 0, 0, 3);
        passed(x, 224, 0, 2, 5);
        passed(x, 768, 0, 4);
        passed(x, 28, 0, 0, 3, 0, 3, 0, 3, 0, 3, 0, 3, 0, 3);
        StubKeep y = Bounds.of("life room 9;" + Bounds.doings(8) + "passes:slip=doing+1 or slip=0 and doing=6;");
        for (int d = 0; d < 8; d++) y.forge(d);
        passed(y, 1021, 6, 0);
        passed(y, 765, 6, 0, 14);
        y.drop(6);
        passed(y, 1021, 1, 0);
        Bounds.sentence(33, "NONE: there are none; as slips()");
        passed(x, 0, -1, 1, 0);
        passed(x, 0, -1, 7);
        for (int t : NO_TRAY) Bounds.due("attempt(" + t + ")", x.attempt(t), -2);
        for (int t = 1; t < 4; t++) Bounds.due("attempt(" + t + ")", x.attempt(t), -6);
        for (int n : new int[] {0, 13, 14, 40}) {
            Bounds.tray(x, 0, Bounds.times(n, 99));
            Bounds.due("attempt told " + n, x.attempt(0), -4);
        }
        for (long v : new long[] {-1, 8, 9, 10, 11, 12, 13, 14, 15, 16, 99, Long.MIN_VALUE, 1L << 32}) {
            passed(x, -3, -3, v);
            passed(x, -3, -3, 7, v);
        }
    }

    // ---- 34, 35

    private static void parted(StubKeep x, String what, int many, int... in) {
        Bounds.due("linings(0): " + what, x.linings(0), many);
        for (int d = 0; d < in.length; d++) Bounds.due("linings(" + (10 + d) + "): " + what, x.linings(10 + d), in[d]);
    }

    /** A text of n DOINGS with the clashes of a graph, a bit for each two. */
    private static String graph(int n, int bits) {
        StringBuilder text = new StringBuilder("life room 9;" + Bounds.doings(n));
        int bit = 0;
        for (int d = 0; d < n; d++) {
            for (int e = 0; e < d; e++) {
                if ((bits >> bit & 1) == 1) text.append("clash ").append(e).append(' ').append(d).append(';');
                bit++;
            }
        }
        return text.toString();
    }

    private static boolean clash(StubKeep x, int d, int e) { return (x.doing(d, 7) >> e & 1) == 1; }

    /** Of all ways to put n into n LININGS, in their order, the first with the fewest. */
    private static int[] firstFewest(StubKeep x, int n) {
        int[] best = null;
        int fewest = n + 1;
        int ways = 1;
        for (int d = 0; d < n; d++) ways *= n;
        for (int way = 0; way < ways; way++) {
            int[] in = new int[n];
            int rest = way;
            int used = 0;
            for (int d = n - 1; d >= 0; d--) {
                in[d] = rest % n;
                rest /= n;
                used |= 1 << in[d];
            }
            boolean may = Integer.bitCount(used) < fewest;
            for (int d = 0; d < n && may; d++) for (int e = 0; e < d; e++) may = may && !(in[d] == in[e] && clash(x, d, e));
            if (may) {
                best = in;
                fewest = Integer.bitCount(used);
            }
        }
        return best;
    }

    private static int greatest(StubKeep x, int n) {
        int best = 0;
        for (int set = 1; set < 1 << n; set++) {
            boolean all = Integer.bitCount(set) > Integer.bitCount(best);
            for (int d = 0; d < n; d++) for (int e = 0; e < d; e++) all = all && ((set >> d & set >> e & 1) == 0 || clash(x, d, e));
            if (all) best = set;
        }
        return best;
    }

    private static void linings() {
        Bounds.sentence(34, "done ones in as few LININGS as can be, no two that clash in one; of like ones the first");
        for (int bits = 0; bits < 1024; bits += bits < 64 ? 1 : 7) {
            int n = bits < 64 ? 4 : 5;
            StubKeep x = doneAll(graph(n, bits));
            int[] in = firstFewest(x, n);
            parted(x, "graph " + bits + " of " + n, Arrays.stream(in).max().getAsInt() + 1, in);
        }
        for (int n = 1; n <= 8; n++) {
            int[] none = new int[n];
            parted(free(n), n + " without a clash", 1, none);
            int[] all = new int[n];
            for (int d = 0; d < n; d++) all[d] = d;
            parted(doneAll(graph(n, -1)), n + " that all clash", n, all);
        }
        Bounds.sentence(34, "what 0: how many, 10 + d: in which DOING d is (NONE: it isn't done)");
        Bounds.due("linings(0) without a life", new StubKeep().linings(0), 0);
        StubKeep x = Bounds.of(graph(8, -1));
        parted(x, "none is done", 0, -1, -1, -1, -1, -1, -1, -1, -1);
        x.does(7);
        x.forge(3);
        parted(x, "one is", 1, -1, -1, -1, -1, -1, -1, -1, 0);
        x.does(2);
        x.drop(2);
        parted(x, "a BARE one, too", 2, -1, -1, 0, -1, -1, -1, -1, 1);
        Bounds.sentence(34, "-2: what (10 and a DOING)");
        for (int what : new int[] {Bounds.LOW, -10, -1, 1, 2, 8, 9, 18, 19, 20, Bounds.HIGH}) Bounds.due("linings(" + what + ")", x.linings(what), -2);
        for (int n = 0; n <= 8; n++) {
            StubKeep y = Bounds.of("life room 9;" + Bounds.doings(n));
            for (int what = 1; what < 20; what++) Bounds.due("linings(" + what + ") of " + n, y.linings(what), what >= 10 && what - 10 < n ? -1 : -2);
        }
    }

    private static void clique() {
        Bounds.sentence(35, "The most done ones that all clash with each other, of like ones the least set as bits");
        Bounds.due("clique() without a life", new StubKeep().clique(), 0);
        Bounds.due("clique(): none is done", Bounds.of(graph(8, -1)).clique(), 0);
        for (int bits = 0; bits < 1024; bits += bits < 64 ? 1 : 7) {
            int n = bits < 64 ? 4 : 5;
            StubKeep x = doneAll(graph(n, bits));
            Bounds.due("clique() of graph " + bits + " of " + n, x.clique(), greatest(x, n));
        }
        for (int n = 1; n <= 8; n++) {
            Bounds.due("clique(): one by itself", free(n).clique(), 1);
            Bounds.due("clique(): all", doneAll(graph(n, -1)).clique(), (1 << n) - 1);
        }
        StubKeep x = Bounds.of(graph(8, -1));
        x.does(7);
        Bounds.due("clique(): the one done", x.clique(), 128);
        x.forge(0);
        x.does(4);
        x.drop(4);
        Bounds.due("clique(): a BARE one, no FORGED one", x.clique(), 144);
        Bounds.due("clique(): 3 and 5 ahead of 2 and 6", doneAll("life room 9;" + Bounds.doings(3) + "clash 1 2;clash 0 2;").clique(), 5);
        Bounds.due("clique(): more ahead of less", doneAll("life room 9;" + Bounds.doings(5) + "clash 0 1;clash 2 3;clash 3 4;clash 2 4;").clique(), 28);
    }

    public static void main(String[] args) {
        orders();
        ordersTold();
        order();
        ahead();
        join();
        slips();
        slipsOfEachLining();
        attempt();
        linings();
        clique();
        Bounds.finish(27, 35);
    }
}
