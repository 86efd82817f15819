/** The bounds of coming and packing: promises 18 to 26. */
public final class ComingBoundsTest {
    private static final String FULL = "life room 40;" + Bounds.doings(8);

    /** A set that is no set of so many DOINGS. */
    private static int[] badSets(int doings) {
        return new int[] {1 << doings, 1 << doings | 1, 1 << 9, 1 << 16, 1 << 30, Bounds.LOW, Bounds.LOW | 1, Bounds.HIGH, -1, -2, -256};
    }

    // ---- 18, 19

    private static void soonest() {
        Bounds.sentence(18, "COMING to a set done: how many DEEDS");
        StubKeep x = Bounds.of(FULL);
        for (int set = 0; set < 256; set++) Bounds.due("soonest(" + set + ")", x.soonest(set), Integer.bitCount(set));
        for (int d = 0; d < 4; d++) x.does(d);
        x.drop(0);
        Bounds.due("soonest(15): it is so, a BARE one, too", x.soonest(15), 0);
        Bounds.due("soonest(31)", x.soonest(31), 1);
        StubKeep chain = Bounds.of("life room 0;doing size 1;doing size 1 needs 0;doing size 1 needs 1;doing size 1 needs 2;doing size 1 needs 3;"
            + "doing size 1 needs 4;doing size 1 needs 5;doing size 1 needs 6;");
        for (int d = 0; d < 8; d++) Bounds.due("soonest of " + d, chain.soonest(1 << d), d + 1);
        StubKeep forged = Bounds.of("life room 9;" + Bounds.doings(2));
        forged.forge(0);
        Bounds.due("soonest(1): FORGED isn't done", forged.soonest(1), 1);
        Bounds.due("soonest(0) without a life", new StubKeep().soonest(0), 0);
        Bounds.sentence(18, "-3: others are in the set");
        for (int n = 0; n <= 8; n++) {
            StubKeep y = Bounds.of("life room 9;" + Bounds.doings(n));
            for (int set : badSets(n)) Bounds.due("soonest(" + set + ") of " + n, y.soonest(set), -3);
            Bounds.due("soonest of all", y.soonest((1 << n) - 1), n);
        }
        Bounds.due("soonest(1) without a life", new StubKeep().soonest(1), -3);
    }

    private static void way() {
        Bounds.sentence(19, "The i-th of it, as a DEED .. the fewest DEEDS, of like ones the first");
        StubKeep x = Bounds.of(FULL);
        for (int i = 0; i < 8; i++) Bounds.due("way(255, " + i + ")", x.way(255, i), i);
        StubKeep y = Bounds.of("life room 9;" + Bounds.doings(3) + "doing size 1 needs 2;doing size 1 needs 0;");
        int[] want = {0, 2, 3, 4};
        for (int i = 0; i < 4; i++) Bounds.due("way(24, " + i + ")", y.way(24, i), want[i]);
        Bounds.sentence(19, "NONE: not so many, it can't be");
        for (int i : new int[] {8, 9, 100, Bounds.HIGH}) Bounds.due("way(255, " + i + ")", x.way(255, i), -1);
        for (int i : new int[] {0, 1, Bounds.HIGH}) Bounds.due("way(0, " + i + ")", x.way(0, i), -1);
        Bounds.due("way(1, 0)", x.way(1, 0), 0);
        Bounds.due("way(1, 1)", x.way(1, 1), -1);
        Bounds.due("way(0, 0) without a life", new StubKeep().way(0, 0), -1);
        Bounds.sentence(19, "-3: the set, i is below 0");
        for (int i : new int[] {-1, -2, Bounds.LOW}) {
            Bounds.due("way(1, " + i + ")", x.way(1, i), -3);
            Bounds.due("way(0, " + i + "): ahead of NONE", x.way(0, i), -3);
        }
        for (int set : badSets(8)) Bounds.due("way(" + set + ", 99): ahead of NONE", x.way(set, 99), -3);
    }

    // ---- 20, 21

    private static void shown() {
        Bounds.sentence(20, "COMING to a set SHOWN: how many DEEDS");
        StubKeep x = Bounds.of(FULL);
        for (int set = 0; set < 256; set++) Bounds.due("shown(" + set + ")", x.shown(set), Integer.bitCount(set));
        StubKeep y = Bounds.of("life room 2;doing size 2;doing size 1 needs 0;doing size 1 needs 0;");
        Bounds.due("shown(6): do 0, drop it, do both", y.shown(6), 4);
        Bounds.due("shown(4): do 0, drop it, do it", y.shown(4), 3);
        y.does(0);
        Bounds.due("shown(1): it is so", y.shown(1), 0);
        Bounds.due("shown(4)", y.shown(4), 2);
        StubKeep forged = Bounds.of("life room 1;" + Bounds.doings(2));
        forged.forge(0);
        Bounds.due("shown(1): FORGED isn't SHOWN", forged.shown(1), 1);
        Bounds.due("shown(2): the false one is dropped first", forged.shown(2), 2);
        Bounds.due("shown(0) without a life", new StubKeep().shown(0), 0);
        Bounds.sentence(20, "NONE: it can't be");
        Bounds.due("shown(1): no ROOM", Bounds.of("life room 1;doing size 2;").shown(1), -1);
        Bounds.due("shown(1): just ROOM", Bounds.of("life room 2;doing size 2;").shown(1), 1);
        Bounds.due("shown(3): one short", Bounds.of("life room 4;doing size 2;doing size 3;").shown(3), -1);
        Bounds.due("shown(3): just ROOM", Bounds.of("life room 5;doing size 2;doing size 3;").shown(3), 2);
        Bounds.due("shown(1): the law", Bounds.of("life room 5;doing size 2;keeps:1=2;").shown(1), -1);
        y.drop(0);
        Bounds.due("shown(1): BARE", y.shown(1), -1);
        Bounds.sentence(20, "-3");
        for (int n = 0; n <= 8; n++) {
            StubKeep z = Bounds.of("life room 0;" + Bounds.doings(n));
            for (int set : badSets(n)) Bounds.due("shown(" + set + ") of " + n, z.shown(set), -3);
            Bounds.due("shown of all", z.shown((1 << n) - 1), n == 0 ? 0 : -1);
        }
    }

    private static void shownBy() {
        Bounds.sentence(21, "The i-th of it, as a DEED .. the fewest DEEDS, of like ones the first");
        StubKeep y = Bounds.of("life room 2;doing size 2;doing size 1 needs 0;doing size 1 needs 0;");
        // behind 0 there is no ROOM, so it is dropped; 1 and 2 fit then
        int[] due = {0, 10, 1, 2, -1};
        for (int i = 0; i < 5; i++) Bounds.due("shownBy(6, " + i + ")", y.shownBy(6, i), due[i]);
        StubKeep x = Bounds.of(FULL);
        for (int i = 0; i < 8; i++) Bounds.due("shownBy(255, " + i + ")", x.shownBy(255, i), i);
        StubKeep z = Bounds.of("life room 2;doing size 1;doing size 1;doing size 2;");
        z.does(0);
        z.does(1);
        Bounds.due("shownBy(4, 0): of two drops the first", z.shownBy(4, 0), 10);
        Bounds.due("shownBy(4, 1)", z.shownBy(4, 1), 11);
        Bounds.due("shownBy(4, 2)", z.shownBy(4, 2), 2);
        Bounds.sentence(21, "NONE: not so many, it can't be");
        for (int i : new int[] {8, 9, 100, Bounds.HIGH}) Bounds.due("shownBy(255, " + i + ")", x.shownBy(255, i), -1);
        Bounds.due("shownBy(0, 0)", x.shownBy(0, 0), -1);
        StubKeep no = Bounds.of("life room 1;doing size 2;");
        for (int i : new int[] {0, 1, Bounds.HIGH}) Bounds.due("shownBy(1, " + i + "): it can't be", no.shownBy(1, i), -1);
        Bounds.sentence(21, "-3: the set, i is below 0");
        for (int i : new int[] {-1, -2, Bounds.LOW}) {
            Bounds.due("shownBy(1, " + i + ")", x.shownBy(1, i), -3);
            Bounds.due("shownBy(1, " + i + "): ahead of NONE", no.shownBy(1, i), -3);
        }
        for (int set : badSets(1)) Bounds.due("shownBy(" + set + ", 0): ahead of NONE", no.shownBy(set, 0), -3);
        for (int set : badSets(8)) Bounds.due("shownBy(" + set + ", 0)", x.shownBy(set, 0), -3);
    }

    // ---- 22 to 24

    private static void rows() {
        Bounds.sentence(22, "How many ROWS of just n DEEDS (0 to 8) there are behind which a set is SHOWN");
        StubKeep x = Bounds.of(FULL);
        long factorial = 1;
        for (int n = 0; n <= 8; n++) {
            int set = (1 << n) - 1;
            factorial *= Math.max(1, n);
            Bounds.due("rows(" + set + ", " + n + ")", x.rows(set, n), factorial);
            if (n < 8) Bounds.due("rows(" + (2 * set + 1) + ", " + n + "): one more than DEEDS", x.rows(2 * set + 1, n), 0);
        }
        StubKeep one = Bounds.of("life room 9;doing size 1;");
        long[] all = {1, 1, 1, 0, 0, 0, 0, 0, 0};
        long[] shown = {0, 1, 0, 0, 0, 0, 0, 0, 0};
        for (int n = 0; n <= 8; n++) {
            Bounds.due("rows(0, " + n + ") of one", one.rows(0, n), all[n]);
            Bounds.due("rows(1, " + n + ") of one", one.rows(1, n), shown[n]);
        }
        one.forge(0);
        // do it; drop it, do it; drop it, do it, drop it ..
        long[] forged = {1, 2, 2, 1, 0, 0, 0, 0, 0};
        for (int n = 0; n <= 8; n++) Bounds.due("rows(0, " + n + ") of a FORGED one", one.rows(0, n), forged[n]);
        one.does(0);
        Bounds.due("rows(1, 0): it is so", one.rows(1, 0), 1);
        Bounds.due("rows(1, 1)", one.rows(1, 1), 0);
        StubKeep none = new StubKeep();
        for (int n = 0; n <= 8; n++) Bounds.due("rows(0, " + n + ") without a life", none.rows(0, n), n == 0 ? 1 : 0);
        StubKeep false8 = Bounds.of(FULL);
        for (int d = 0; d < 8; d++) false8.forge(d);
        Bounds.due("rows(255, 8) of all FORGED", false8.rows(255, 8), 40320);
        // 16 DEEDS first; behind each 14 for the others, 1 for the same one
        Bounds.due("rows(0, 1) of all FORGED", false8.rows(0, 1), 16);
        Bounds.due("rows(0, 2) of all FORGED", false8.rows(0, 2), 240);
        Bounds.sentence(22, "-3: the set, n");
        for (int n : new int[] {Bounds.LOW, -1, 9, 10, Bounds.HIGH}) Bounds.due("rows(0, " + n + ")", x.rows(0, n), -3);
        for (int set : badSets(8)) Bounds.due("rows(" + set + ", 0)", x.rows(set, 0), -3);
        for (int set : badSets(1)) Bounds.due("rows(" + set + ", 8)", one.rows(set, 8), -3);
    }

    private static void mostAndStands() {
        Bounds.sentence(23, "The most DOINGS that can be SHOWN at one time by some ROW");
        Bounds.due("most() without a life", new StubKeep().most(), 0);
        Bounds.due("most(): no ROOM", Bounds.of("life room 0;" + Bounds.doings(8)).most(), 0);
        for (int room = 0; room <= 9; room++) Bounds.due("most() in " + room, Bounds.of("life room " + room + ";" + Bounds.doings(8)).most(), Math.min(8, room));
        Bounds.due("most(): the law", Bounds.of("life room 9;" + Bounds.doings(4) + "keeps:held<2;").most(), 2);
        StubKeep x = Bounds.of("life room 9;" + Bounds.doings(3));
        x.does(0);
        x.drop(0);
        Bounds.due("most(): a BARE one stays so", x.most(), 2);
        x.does(1);
        x.does(2);
        Bounds.due("most(): as it is", x.most(), 2);
        x.drop(1);
        x.drop(2);
        Bounds.due("most(): all are BARE", x.most(), 0);
        Bounds.sentence(24, "In how many ways all can be by some ROW (as they are, too)");
        Bounds.due("stands() without a life", new StubKeep().stands(), 1);
        Bounds.due("stands(): all are BARE", x.stands(), 1);
        int ways = 1;
        int forgedWays = 1;
        for (int n = 0; n <= 8; n++) {
            StubKeep y = Bounds.of("life room 40;" + Bounds.doings(n));
            Bounds.due("stands() of " + n, y.stands(), ways);
            for (int d = 0; d < n; d++) y.forge(d);
            Bounds.due("stands() of " + n + " FORGED", y.stands(), forgedWays);
            ways *= 3;
            forgedWays *= 4;
        }
        Bounds.due("stands(): no ROOM, OPEN or BARE", Bounds.of("life room 0;" + Bounds.doings(8)).stands(), 256);
        Bounds.due("stands(): a chain", Bounds.of("life room 0;doing size 1;doing size 1 needs 0;").stands(), 3);
    }

    // ---- 25, 26

    private static void gain() {
        Bounds.sentence(25, "how likely it is asked for (0 to 10), times the worth of all that would be PUT BACK by it");
        for (int asked = 0; asked <= 10; asked++) {
            for (int worth : new int[] {0, 1, 9}) {
                StubKeep x = Bounds.of("life room 9;doing size 1 asked " + asked + " worth " + worth + ";");
                x.does(0);
                Bounds.due("gain(0)", x.gain(0), asked * worth);
            }
        }
        StringBuilder text = new StringBuilder("life room 0;doing size 1 asked 10 worth 9;");
        for (int d = 1; d < 8; d++) text.append("doing size 1 asked 10 worth 9 needs ").append(d - 1).append(';');
        StubKeep all = Bounds.of(text.toString());
        for (int d = 0; d < 8; d++) {
            all.does(d);
            Bounds.due("gain(0): done ones alone", all.gain(0), 90 * (d + 1));
        }
        Bounds.due("gain(7)", all.gain(7), 90);
        Bounds.sentence(25, "-2; -5: it isn't done");
        StubKeep x = Bounds.of("life room 9;" + Bounds.doings(3));
        x.does(0);
        x.forge(2);
        Bounds.due("gain(0)", x.gain(0), 5);
        Bounds.due("gain(1): OPEN", x.gain(1), -5);
        Bounds.due("gain(2): FORGED", x.gain(2), -5);
        x.drop(0);
        Bounds.due("gain(0): BARE", x.gain(0), 5);
        for (int d : new int[] {Bounds.LOW, -1, 3, 8, Bounds.HIGH}) Bounds.due("gain(" + d + ")", x.gain(d), -2);
    }

    private static void packed(StubKeep x, String what, int sum, int set) {
        Bounds.due("pack(0): " + what, x.pack(0), sum);
        Bounds.due("pack(1): " + what, x.pack(1), set);
    }

    private static StubKeep doneAll(String text) {
        StubKeep x = Bounds.of(text);
        for (int d = 0; d < x.count(0); d++) x.does(d);
        return x;
    }

    private static void pack() {
        Bounds.sentence(26, "with SIZES of no more than the ROOM together");
        packed(new StubKeep(), "without a life", 0, 0);
        packed(Bounds.of(FULL), "none is done", 0, 0);
        packed(doneAll("life room 40;" + Bounds.doings(8)), "all", 40, 255);
        packed(doneAll("life room 8;" + Bounds.doings(8)), "all, just ROOM", 40, 255);
        packed(doneAll("life room 7;" + Bounds.doings(8)), "all but one", 35, 127);
        packed(doneAll("life room 0;" + Bounds.doings(8)), "no ROOM", 0, 0);
        packed(doneAll("life room 40;" + "doing size 9;".repeat(4) + "doing size 4;doing size 5 asked 4;"), "40 of 40", 25, 31);
        packed(doneAll("life room 5;doing size 3 asked 9;doing size 2 asked 5;doing size 3 asked 5;"), "5 of 5", 14, 3);
        packed(doneAll("life room 4;doing size 3 asked 9;doing size 2 asked 5;doing size 3 asked 5;"), "3 of 4", 9, 1);
        packed(doneAll("life room 4;doing size 3 asked 9;doing size 2 asked 5;doing size 2 asked 5;"), "two are more", 10, 6);
        StubKeep x = Bounds.of("life room 2;" + Bounds.doings(4));
        x.forge(3);
        x.does(0);
        x.does(1);
        packed(x, "a false stub takes none of it", 10, 3);
        x.drop(0);
        packed(x, "BARE ones, too", 10, 3);
        Bounds.sentence(26, "the greatest sum of GAINS, of like ones the least set as bits");
        packed(doneAll("life room 1;" + Bounds.doings(3)), "one of three", 5, 1);
        packed(doneAll("life room 2;" + Bounds.doings(3)), "two of three", 10, 3);
        packed(doneAll("life room 9;doing size 1 asked 0;doing size 1;doing size 1 worth 0;"), "those of no GAIN stay out", 5, 2);
        packed(doneAll("life room 9;doing size 1 asked 0;"), "none is of use", 0, 0);
        packed(doneAll("life room 2;doing size 1 asked 4;doing size 1 asked 6;doing size 2 asked 10;"), "3 ahead of 4", 10, 3);
        packed(doneAll("life room 2;doing size 2 asked 10;doing size 1 asked 4;doing size 1 asked 6;"), "1 ahead of 6", 10, 1);
        Bounds.sentence(26, "-2: what");
        for (int what : new int[] {Bounds.LOW, -1, 2, 3, 10, Bounds.HIGH}) Bounds.due("pack(" + what + ")", x.pack(what), -2);
    }

    public static void main(String[] args) {
        soonest();
        way();
        shown();
        shownBy();
        rows();
        mostAndStands();
        gain();
        pack();
        Bounds.finish(18, 26);
    }
}
