/** The bounds of turns, fires, TRAYS, IMAGES and counts: promises 36 to 46. */
public final class TurnBoundsTest {
    private static final int[] NO_TRAY = {Bounds.LOW, -2, -1, 4, 5, 40, Bounds.HIGH};

    /** A set that is no set of so many DOINGS. */
    private static int[] badSets(int doings) {
        return new int[] {1 << doings, 1 << doings | 1, 1 << 9, 1 << 16, 1 << 30, Bounds.LOW, Bounds.LOW | 1, Bounds.HIGH, -1, -2, -256};
    }

    private static StubKeep doneAll(String text) {
        StubKeep x = Bounds.of(text);
        for (int d = 0; d < x.count(0); d++) x.does(d);
        return x;
    }

    private static void forced(StubKeep x, String what, int set, int turns, int best) {
        Bounds.due("forces(" + set + "): " + what, x.forces(set), turns);
        Bounds.due("best(" + set + "): " + what, x.best(set), best);
    }

    // ---- 36, 37

    private static void forces() {
        Bounds.sentence(36, "within how many turns, at fewest (0: it is so) .. NONE: not within 3");
        StubKeep x = Bounds.of("life room 40;" + Bounds.doings(8));
        for (int set = 0; set < 256; set++) {
            int many = Integer.bitCount(set);
            Bounds.due("forces(" + set + ")", x.forces(set), many <= 3 ? many : -1);
            Bounds.due("best(" + set + ")", x.best(set), many == 0 || many > 3 ? -1 : Integer.numberOfTrailingZeros(set));
        }
        forced(new StubKeep(), "without a life", 0, 0, -1);
        StubKeep chain = Bounds.of("life room 9;doing size 1;doing size 1 needs 0;doing size 1 needs 1;doing size 1 needs 2;");
        for (int d = 0; d < 4; d++) forced(chain, "a chain", 1 << d, d < 3 ? d + 1 : -1, d < 3 ? 0 : -1);
        chain.does(0);
        for (int d = 1; d < 4; d++) forced(chain, "a chain, one done", 1 << d, d, 1);
        forced(chain, "it is so", 1, 0, -1);
        forced(chain, "four, one is so", 15, 3, 1);
        chain.drop(0);
        // the BARE one is asked for, behind each turn of one's own
        forced(chain, "on a BARE one, ahead of an officer", 2, 1, 1);
        forced(chain, "on a BARE one, behind an officer", 4, -1, -1);
        forced(chain, "a BARE one", 1, -1, -1);
        Bounds.sentence(36, "one FORCES a set to be SHOWN .. whatever the officer asks for");
        StubKeep law = Bounds.of("life room 9;doing size 1;doing size 1;keeps:doing=1;");
        forced(law, "one that can't be SHOWN", 1, -1, -1);
        forced(law, "the other", 2, 1, 1);
        StubKeep none = Bounds.of("life room 0;doing size 1;");
        forced(none, "no ROOM", 1, -1, -1);
        StubKeep full = Bounds.of("life room 2;doing size 2;doing size 2;");
        full.does(0);
        forced(full, "DROP one, do the other", 2, 2, 10);
        forced(full, "both have no ROOM", 3, -1, -1);
        // both false stubs must go; an officer may ask for one, or for none
        StubKeep false2 = Bounds.of("life room 2;doing size 1;doing size 1;doing size 2;");
        false2.forge(0);
        false2.forge(1);
        forced(false2, "two false stubs in the way", 4, 3, 10);
        StubKeep false3 = Bounds.of("life room 3;" + Bounds.doings(3) + "doing size 3;");
        for (int d = 0; d < 3; d++) false3.forge(d);
        forced(false3, "three are too many", 8, -1, -1);
        forced(false3, "DOING one is enough", 1, 1, 0);
        Bounds.sentence(36, "-3: the set");
        for (int n = 0; n <= 8; n++) {
            StubKeep y = Bounds.of("life room 0;" + Bounds.doings(n));
            for (int set : badSets(n)) Bounds.due("forces(" + set + ") of " + n, y.forces(set), -3);
            Bounds.due("forces of all", y.forces((1 << n) - 1), n == 0 ? 0 : -1);
        }
        Bounds.due("forces(1) without a life", new StubKeep().forces(1), -3);
    }

    private static void best() {
        Bounds.sentence(37, "The first DEED by which it does within as few");
        StubKeep x = Bounds.of("life room 9;" + Bounds.doings(8));
        for (int d = 0; d < 8; d++) Bounds.due("best of " + d, x.best(1 << d), d);
        StubKeep y = Bounds.of("life room 2;doing size 1;doing size 1;doing size 2;");
        y.does(0);
        y.does(1);
        // each of the two DROPPED is asked for then, which helps
        forced(y, "two to DROP", 4, 3, 10);
        y.drop(0);
        forced(y, "one to DROP", 4, 2, 11);
        StubKeep z = Bounds.of("life room 9;doing size 1;doing size 1;doing size 1 needs 1;doing size 1 needs 0;");
        forced(z, "of two ways the first", 8, 2, 0);
        forced(z, "the only way", 4, 2, 1);
        Bounds.sentence(37, "NONE: it doesn't, it is so; -3");
        Bounds.due("best(0)", z.best(0), -1);
        Bounds.due("best(15): four", z.best(15), -1);
        z.does(0);
        Bounds.due("best(1): it is so", z.best(1), -1);
        Bounds.due("best(3)", z.best(3), 1);
        for (int n = 0; n <= 8; n++) {
            StubKeep w = Bounds.of("life room 0;" + Bounds.doings(n));
            for (int set : badSets(n)) Bounds.due("best(" + set + ") of " + n, w.best(set), -3);
            Bounds.due("best of all", w.best((1 << n) - 1), -1);
        }
    }

    // ---- 38 to 40

    private static long common(long a, long b) { return b == 0 ? a : common(b, a % b); }

    private static void likely(StubKeep x, String what, int d, long above, long below) {
        long by = common(above, below);
        Bounds.due("chance(" + d + ", 0): " + what, x.chance(d, 0), above / by);
        Bounds.due("chance(" + d + ", 1): " + what, x.chance(d, 1), below / by);
    }

    private static void mean(StubKeep x, String what, long above, long below) {
        long by = common(above, below);
        Bounds.due("mean(0): " + what, x.mean(0), above / by);
        Bounds.due("mean(1): " + what, x.mean(1), below / by);
    }

    private static void chance() {
        Bounds.sentence(38, "each stub of a SHOWN one burns as likely as told (it is BARE then), then each that is BARE is ASKED for as likely as told .. in lowest terms");
        for (int asked = 0; asked <= 10; asked++) {
            for (int burns = 0; burns <= 10; burns++) {
                StubKeep x = doneAll("life room 9;doing size 1 asked " + asked + " burns " + burns + ";");
                likely(x, "SHOWN, " + asked + ", " + burns, 0, 100 - asked * burns, 100);
                mean(x, "SHOWN, " + asked + ", " + burns, 100 - asked * burns, 100);
                x.drop(0);
                likely(x, "BARE, " + asked + ", " + burns, 0, 10 - asked, 10);
                mean(x, "BARE, " + asked + ", " + burns, 10 - asked, 10);
            }
        }
        likely(doneAll("life room 9;doing size 1;"), "untold: it doesn't burn", 0, 1, 1);
        likely(doneAll("life room 0;doing size 1;"), "untold: 5 in 10", 0, 1, 2);
        Bounds.sentence(38, "all these are PUT BACK");
        StringBuilder text = new StringBuilder("life room 0;doing size 1 asked 9;");
        for (int d = 1; d < 8; d++) text.append("doing size 1 asked 9 needs ").append(d - 1).append(';');
        StubKeep chain = doneAll(text.toString());
        long below = 1;
        for (int d = 0; d < 8; d++) {
            below *= 10;
            likely(chain, "a chain of BARE ones", d, 1, below);
        }
        StubKeep y = doneAll("life room 9;doing size 1 asked 10 burns 10;doing size 1 asked 0 needs 0;doing size 1 asked 5 burns 5;doing size 1 asked 0 needs 2 needs 2;");
        long[][] want = {{0, 1}, {0, 1}, {3, 4}, {3, 4}};
        for (int d = 0; d < 4; d++) likely(y, "by what it needs", d, want[d][0], want[d][1]);
        StubKeep twice = doneAll("life room 0;doing size 1 asked 5;doing size 1 asked 0 needs 0;doing size 1 asked 0 needs 0;doing size 1 asked 0 needs 1 needs 2;");
        likely(twice, "one that two need counts once", 3, 1, 2);
        Bounds.sentence(38, "-2: the DOING, what; -5: it isn't done");
        StubKeep z = Bounds.of("life room 9;" + Bounds.doings(3));
        z.does(0);
        z.forge(1);
        for (int d : new int[] {Bounds.LOW, -1, 3, 4, 8, Bounds.HIGH}) {
            Bounds.due("chance(" + d + ", 0)", z.chance(d, 0), -2);
            Bounds.due("chance(" + d + ", 1)", z.chance(d, 1), -2);
        }
        for (int what : new int[] {Bounds.LOW, -1, 2, 3, Bounds.HIGH}) {
            for (int d = -1; d <= 3; d++) Bounds.due("chance(" + d + ", " + what + ")", z.chance(d, what), -2);
        }
        for (int what = 0; what < 2; what++) {
            Bounds.due("chance(0, " + what + ")", z.chance(0, what), 1);
            Bounds.due("chance(1, " + what + "): FORGED", z.chance(1, what), -5);
            Bounds.due("chance(2, " + what + "): OPEN", z.chance(2, what), -5);
        }
    }

    private static void mean() {
        Bounds.sentence(39, "How many are done on the mean then .. in lowest terms");
        mean(new StubKeep(), "without a life", 0, 1);
        StubKeep x = Bounds.of("life room 40;" + Bounds.doings(8));
        mean(x, "none is done", 0, 1);
        for (int d = 0; d < 8; d++) {
            x.does(d);
            mean(x, "all stay", d + 1, 1);
        }
        for (int d = 0; d < 8; d++) {
            x.drop(d);
            mean(x, "BARE ones, 5 in 10", 16 - d - 1, 2);
        }
        mean(doneAll("life room 0;" + "doing size 1 asked 10;".repeat(8)), "none stays", 0, 1);
        mean(doneAll("life room 0;" + "doing size 1 asked 9;".repeat(8)), "8 times 1 in 10", 4, 5);
        StubKeep chain = doneAll("life room 0;doing size 1 asked 5;doing size 1 asked 5 needs 0;doing size 1 asked 5 needs 1;");
        mean(chain, "1/2 + 1/4 + 1/8", 7, 8);
        StringBuilder text = new StringBuilder("life room 40;doing size 1 burns 1 asked 1;");
        for (int d = 1; d < 8; d++) text.append("doing size 1 burns 1 asked 1 needs ").append(d - 1).append(';');
        StubKeep all = doneAll(text.toString());
        long sum = 0;
        long part = 10000000000000000L;
        for (int d = 0; d < 8; d++) {
            part = part / 100 * 99;
            sum += part;
        }
        mean(all, "as far as longs go", sum, 10000000000000000L);
        StubKeep forged = Bounds.of("life room 9;" + Bounds.doings(2));
        forged.forge(0);
        mean(forged, "FORGED isn't done", 0, 1);
        Bounds.sentence(39, "-2: what");
        for (int what : new int[] {Bounds.LOW, -1, 2, 3, Bounds.HIGH}) {
            Bounds.due("mean(" + what + ")", x.mean(what), -2);
            Bounds.due("mean(" + what + ") without a life", new StubKeep().mean(what), -2);
        }
    }

    private static void wanted() {
        Bounds.sentence(40, "The BARE one by which, if it were SHOWN (all else as it is), most would be done on the mean then, the first");
        Bounds.due("wanted(): like ones", doneAll("life room 0;" + Bounds.doings(8)).wanted(), 0);
        Bounds.due("wanted(): ROOM doesn't count", doneAll("life room 0;doing size 9 asked 4;doing size 9 asked 5;").wanted(), 1);
        Bounds.due("wanted(): the last", doneAll("life room 0;" + "doing size 1 asked 4;".repeat(7) + "doing size 1 asked 5;").wanted(), 7);
        Bounds.due("wanted(): none is of use, the first", doneAll("life room 0;" + "doing size 1 asked 0;".repeat(3)).wanted(), 0);
        Bounds.due("wanted(): it burns surely", doneAll("life room 0;doing size 1 asked 9 burns 10;doing size 1 asked 1;").wanted(), 1);
        Bounds.due("wanted(): what needs it counts", doneAll("life room 0;doing size 1 asked 6;doing size 1 asked 5;doing size 1 asked 0 needs 1;").wanted(), 1);
        StubKeep x = Bounds.of("life room 9;" + Bounds.doings(4));
        x.does(0);
        x.forge(1);
        x.does(3);
        Bounds.sentence(40, "NONE: none is BARE");
        Bounds.due("wanted(): OPEN, SHOWN, FORGED", x.wanted(), -1);
        x.drop(3);
        Bounds.due("wanted(): the one BARE", x.wanted(), 3);
        x.drop(0);
        Bounds.due("wanted(): the first", x.wanted(), 0);
        x.ask(0);
        x.ask(3);
        Bounds.due("wanted(): put back", x.wanted(), -1);
        Bounds.due("wanted() without a life", new StubKeep().wanted(), -1);
        Bounds.due("wanted(): none is done", Bounds.of("life room 0;" + Bounds.doings(8)).wanted(), -1);
    }

    // ---- 41, 42

    private static void numbers() {
        Bounds.sentence(41, "A TRAY has n numbers of a sort, all 0 (in place of another one): 0");
        StubKeep x = new StubKeep();
        for (int t = 0; t < 4; t++) {
            for (int sort = 0; sort < 4; sort++) {
                for (int n = 0; n <= 40; n += n < 2 || n > 37 ? 1 : 9) {
                    Bounds.due("numbers(" + t + ", " + sort + ", " + n + ")", x.numbers(t, sort, n), 0);
                    for (int i = 0; i < n; i++) x.write(t, i, 40 + i % 10);
                    Bounds.due("perform(" + t + "): so many", x.perform(t), n);
                    Bounds.due("write(" + t + ", " + n + ", 0)", x.write(t, n, 0), -7);
                }
            }
        }
        StubKeep y = Bounds.of("life room 9;doing size 1;");
        Bounds.tray(y, 2, Bounds.times(40, 44));
        Bounds.due("judge(2, 0)", y.judge(2, 0), -1);
        y.numbers(2, 0, 40);
        Bounds.due("judge(2, 0): all 0, to DO 0 twice", y.judge(2, 0), 1);
        y.numbers(2, 0, 1);
        Bounds.due("judge(2, 0): one", y.judge(2, 0), -1);
        Bounds.due("judge(2, 2): one", y.judge(2, 2), 1);
        y.numbers(2, 0, 0);
        Bounds.due("judge(2, 2): empty", y.judge(2, 2), 0);
        Bounds.due("perform(2): empty, not MISSING", y.perform(2), 0);
        Bounds.sentence(41, "-2: no such TRAY, sort");
        for (int t : NO_TRAY) {
            Bounds.due("numbers(" + t + ", 0, 1)", y.numbers(t, 0, 1), -2);
            Bounds.due("numbers(" + t + ", 0, 41): ahead of -3", y.numbers(t, 0, 41), -2);
        }
        for (int sort : new int[] {Bounds.LOW, -1, 4, 5, 8, 64, Bounds.HIGH}) {
            Bounds.due("numbers(0, " + sort + ", 1)", y.numbers(0, sort, 1), -2);
            Bounds.due("numbers(0, " + sort + ", -1): ahead of -3", y.numbers(0, sort, -1), -2);
        }
        Bounds.due("perform(0): still MISSING", y.perform(0), -6);
        Bounds.sentence(41, "-3, and the TRAY stays: n is below 0 or above 40");
        Bounds.tray(y, 1, 44, 45, 300);
        for (int n : new int[] {Bounds.LOW, -2, -1, 41, 42, Bounds.HIGH}) {
            Bounds.due("numbers(0, 0, " + n + ")", y.numbers(0, 0, n), -3);
            Bounds.due("numbers(1, 0, " + n + ")", y.numbers(1, 0, n), -3);
            Bounds.due("perform(0): still MISSING", y.perform(0), -6);
            Bounds.due("judge(1, 0): it stays", y.judge(1, 0), 2);
            Bounds.due("write(1, 2, 300): its sort stays", y.write(1, 2, 300), 300);
            Bounds.due("write(1, 3, 0): as many", y.write(1, 3, 0), -7);
        }
    }

    private static void write() {
        Bounds.sentence(42, "Number i of a TRAY is v, cut to its sort: as it is there");
        for (int sort = 0; sort < 4; sort++) {
            StubKeep x = new StubKeep();
            x.numbers(sort, sort, 40);
            int bits = 8 << sort;
            long high = (1L << bits - 1) - 1;
            long low = -high - 1;
            for (int i : new int[] {0, 1, 20, 39}) {
                for (long v : new long[] {0, 1, -1, 5, high - 1, high, low, low + 1}) Bounds.due("write of " + v + ", sort " + sort, x.write(sort, i, v), v);
                Bounds.due("write of one more, sort " + sort, x.write(sort, i, high + 1), low);
                Bounds.due("write of one less, sort " + sort, x.write(sort, i, low - 1), high);
                if (sort < 3) {
                    Bounds.due("write of all bits, sort " + sort, x.write(sort, i, (1L << bits) - 1), -1);
                    Bounds.due("write of one bit beyond, sort " + sort, x.write(sort, i, 1L << bits), 0);
                    Bounds.due("write of the greatest, sort " + sort, x.write(sort, i, Long.MAX_VALUE), -1);
                    Bounds.due("write of the least, sort " + sort, x.write(sort, i, Long.MIN_VALUE), 0);
                }
            }
            // as it is there: 256 and 65536 and so on more than 44 is SLIP 4 where it is cut
            x.numbers(sort, sort, 1);
            for (int s = 0; s < 3; s++) {
                x.write(sort, 0, (1L << (8 << s)) + 44);
                Bounds.due("perform of 44 and 2 to the " + (8 << s) + ", sort " + sort, x.perform(sort), sort <= s ? 1 : 0);
            }
        }
        StubKeep y = new StubKeep();
        Bounds.tray(y, 0, 41, 42, 43);
        y.write(0, 1, 50);
        Bounds.due("perform(0): the others stay", y.perform(0), 1);
        y.write(0, 1, 49);
        Bounds.due("perform(0): the others stay", y.perform(0), 3);
        Bounds.due("count(7)", y.count(7), 3);
        Bounds.sentence(42, "-2: no such TRAY; -6; -7");
        for (int t : NO_TRAY) for (int i : new int[] {-1, 0, 40}) Bounds.due("write(" + t + ", " + i + ", 5)", y.write(t, i, 5), -2);
        for (int i : new int[] {Bounds.LOW, -1, 0, 1, 40, Bounds.HIGH}) Bounds.due("write(1, " + i + ", 5)", y.write(1, i, 5), -6);
        for (int n : new int[] {0, 1, 2, 39, 40}) {
            y.numbers(2, 1, n);
            for (int i : new int[] {Bounds.LOW, -1, n, n + 1, 40, 41, Bounds.HIGH}) Bounds.due("write(2, " + i + ", 5) of " + n, y.write(2, i, 5), -7);
            if (n > 0) Bounds.due("write(2, " + (n - 1) + ", 5) of " + n, y.write(2, n - 1, 5), 5);
        }
    }

    // ---- 43

    private static void lists() {
        Bounds.sentence(43, "DEEDS of COMING to a set SHOWN come into a TRAY, as far as it has places: how many");
        StubKeep x = Bounds.of("life room 40;" + Bounds.doings(8));
        for (int sort = 0; sort < 4; sort++) {
            for (int n : new int[] {0, 1, 7, 8, 9, 40}) {
                x.numbers(sort, sort, n);
                for (int i = 0; i < n; i++) x.write(sort, i, 50);
                int come = Math.min(8, n);
                Bounds.due("lists(" + sort + ", 255) of " + n, x.lists(sort, 255), come);
                Bounds.due("judge(" + sort + ", 0): the other places stay", x.judge(sort, 0), n > 8 ? 8 : -1);
                Bounds.due("judge(" + sort + ", 3)", x.judge(sort, 3), (1 << come) - 1);
            }
        }
        x.numbers(0, 0, 2);
        x.write(0, 0, 44);
        x.write(0, 1, 46);
        Bounds.due("lists(0, 0): it is so", x.lists(0, 0), 0);
        x.perform(0);
        Bounds.due("count(7): the TRAY is as it was", x.count(7), 6);
        StubKeep y = Bounds.of("life room 2;doing size 2;doing size 1 needs 0;doing size 1 needs 0;");
        y.numbers(3, 0, 40);
        Bounds.due("lists(3, 6)", y.lists(3, 6), 4);
        Bounds.due("count(8): nothing is done by it", y.count(8), 0);
        Bounds.due("perform(3): 0, 10, 1, 2, and to DO 0", y.perform(3), 4);
        Bounds.due("count(5)", y.count(5), 6);
        StubKeep none = new StubKeep();
        none.numbers(0, 0, 40);
        Bounds.due("lists(0, 0) without a life", none.lists(0, 0), 0);
        Bounds.sentence(43, "-2: the TRAY; -6; -3: the set; -5: there is none");
        StubKeep z = Bounds.of("life room 1;doing size 2;doing size 1;");
        z.numbers(0, 0, 3);
        for (int set : new int[] {0, 1, 2, 4, -1}) {
            for (int t : NO_TRAY) Bounds.due("lists(" + t + ", " + set + ")", z.lists(t, set), -2);
            for (int t = 1; t < 4; t++) Bounds.due("lists(" + t + ", " + set + ")", z.lists(t, set), -6);
        }
        for (int set : badSets(2)) Bounds.due("lists(0, " + set + ")", z.lists(0, set), -3);
        Bounds.due("lists(0, 1): no ROOM", z.lists(0, 1), -5);
        Bounds.due("lists(0, 3)", z.lists(0, 3), -5);
        Bounds.due("lists(0, 2)", z.lists(0, 2), 1);
        z.numbers(0, 0, 0);
        Bounds.due("lists(0, 1): no places, there is none", z.lists(0, 1), -5);
        Bounds.due("lists(0, 2): no places", z.lists(0, 2), 0);
        z.does(1);
        z.drop(1);
        Bounds.due("lists(0, 2): BARE", z.lists(0, 2), -5);
    }

    // ---- 44, 45

    private static void stands(StubKeep x, String what, int... want) {
        for (int i = 0; i < want.length; i++) Bounds.due("count(" + i + "): " + what, x.count(i), want[i]);
    }

    private static void image() {
        Bounds.sentence(44, "IMAGES 0 to 1 .. An IMAGE is made: 0. -2");
        StubKeep x = Bounds.of("life room 9;" + Bounds.doings(3) + "slip 2;");
        for (int i : new int[] {Bounds.LOW, -2, -1, 2, 3, Bounds.HIGH}) Bounds.due("image(" + i + ")", x.image(i), -2);
        for (int i = 0; i < 2; i++) Bounds.due("restore(" + i + "): none was made", x.restore(i), -5);
        x.does(0);
        Bounds.due("image(0)", x.image(0), 0);
        Bounds.due("restore(1): that one wasn't", x.restore(1), -5);
        stands(x, "as it was", 3, 0, 9, 8, 1, 1, 0, 2, 1, 0, 5);
        Bounds.due("undo(1): behind image()", x.undo(1), 0);
        x.does(1);
        Bounds.due("image(1)", x.image(1), 0);
        Bounds.due("restore(0)", x.restore(0), 0);
        Bounds.due("count(4)", x.count(4), 1);
        Bounds.due("restore(1)", x.restore(1), 0);
        Bounds.due("count(4)", x.count(4), 2);
        x.does(2);
        Bounds.due("image(1): in place of the other", x.image(1), 0);
        x.restore(0);
        x.restore(1);
        Bounds.due("count(4)", x.count(4), 6);
        StubKeep fresh = new StubKeep();
        Bounds.due("image(0) without a life", fresh.image(0), 0);
        Bounds.tell(fresh, "life room 7;doing size 1;slip 3;");
        Bounds.due("restore(0)", fresh.restore(0), 0);
        stands(fresh, "without a life", 0, 0, 0, 0, 0, 0, 0, 0, 0, 0, 0);
    }

    private static void restore() {
        Bounds.sentence(45, "All that is in an IMAGE is as it was: 0");
        StubKeep x = Bounds.of("life room 9;doing size 1 edge 2 asked 3 burns 4 worth 5;doing size 2 needs 0;doing size 3;doing size 1;door 6;clash 0 1;slip 7;keeps:doing<2;passes:slip=7;");
        for (int d = 0; d < 3; d++) x.does(d);
        x.drop(0);
        x.forge(3);
        x.image(1);
        Bounds.tell(x, "life room 5;doing size 5;");
        x.does(0);
        x.slip(1);
        Bounds.due("restore(1)", x.restore(1), 0);
        stands(x, "restored", 4, 1, 9, 6, 7, 10, 8, 7, 0, 0, 10);
        int[] first = {2, 1, 2, 3, 4, 5, 0, 2};
        for (int what = 0; what < 8; what++) Bounds.due("doing(0, " + what + ")", x.doing(0, what), first[what]);
        int[] moods = {2, 1, 2, 3};
        for (int d = 0; d < 4; d++) Bounds.due("doing(" + d + ", 0)", x.doing(d, 0), moods[d]);
        Bounds.due("doing(1, 6)", x.doing(1, 6), 1);
        Bounds.due("door(0)", x.door(0), 6);
        Bounds.due("ask(3): passes is back", x.ask(3), 0);
        x.ask(2);
        Bounds.due("does(2): keeps is back", x.does(2), 2);
        Bounds.sentence(45, "nothing can be UNDONE behind");
        Bounds.due("count(8)", x.count(8), 3);
        Bounds.due("restore(1): once more", x.restore(1), 0);
        Bounds.due("undo(1)", x.undo(1), -3);
        Bounds.due("count(8)", x.count(8), 0);
        x.slip(0);
        Bounds.due("undo(1): what is done behind it can", x.undo(1), 0);
        Bounds.due("count(7)", x.count(7), 7);
        Bounds.sentence(45, "-2; -5: none was made");
        for (int i : new int[] {Bounds.LOW, -2, -1, 2, 3, Bounds.HIGH}) Bounds.due("restore(" + i + ")", x.restore(i), -2);
        Bounds.due("restore(0)", x.restore(0), -5);
        for (int i = 0; i < 2; i++) Bounds.due("restore(" + i + ") of a new one", new StubKeep().restore(i), -5);
        Bounds.tell(x, "life room 41;");
        Bounds.due("restore(1): behind a FAULT", x.restore(1), 0);
        Bounds.due("fault(1): it stays", x.fault(1), 10);
        x.feed(0, 0, 0, 0, 0);
        x.numbers(0, 0, 1);
        x.restore(1);
        Bounds.due("count(9): THE TAPE stays", x.count(9), 20);
        Bounds.due("write(0, 0, 1): TRAYS stay", x.write(0, 0, 1), 1);
    }

    // ---- 46

    private static void count() {
        Bounds.sentence(46, "0 DOINGS, 1 DOORS, 2 ROOM, 3 ROOM left, 4 what is done, as bits, 5 stubs in the lining, as bits, 6 FORGED ones, as bits, 7 SLIP, 8 calls that can be UNDONE, 9 bytes on THE TAPE, 10 LINES");
        stands(new StubKeep(), "a new object", 0, 0, 0, 0, 0, 0, 0, 0, 0, 0, 0);
        StubKeep x = Bounds.of("life room 40;" + "doing size 5;".repeat(8) + "door 9;".repeat(8) + "slip 9;");
        stands(x, "told", 8, 8, 40, 40, 0, 0, 0, 9, 0, 0, 18);
        for (int d = 0; d < 8; d++) {
            x.forge(d);
            stands(x, "forged", 8, 8, 40, 35 - 5 * d, 0, (2 << d) - 1, (2 << d) - 1, 9, d + 1, 0, 18);
        }
        for (int d = 0; d < 8; d++) {
            x.does(d);
            stands(x, "done", 8, 8, 40, 0, (2 << d) - 1, 255, 255 & -2 << d, 9, Math.min(10, 9 + d), 0, 18);
        }
        for (int d = 0; d < 8; d++) {
            x.drop(d);
            stands(x, "dropped", 8, 8, 40, 5 + 5 * d, 255, 255 & -2 << d, 0, 9, 10, 0, 18);
        }
        for (int i = 1; i <= 45; i++) {
            x.feed(i, i, i, i, i);
            Bounds.due("count(9)", x.count(9), 20 * i);
        }
        x.feed(0, 0, 0, 0, 0);
        Bounds.due("count(9): no more", x.count(9), 900);
        x.life(901);
        Bounds.due("count(9): it stays", x.count(9), 900);
        x.life(900);
        Bounds.due("count(9): it is empty", x.count(9), 0);
        Bounds.due("count(10): a FAULT", x.count(10), 18);
        Bounds.sentence(46, "NONE for others");
        for (int what : new int[] {Bounds.LOW, -3, -2, -1, 11, 12, 13, 100, Bounds.HIGH}) {
            Bounds.due("count(" + what + ")", x.count(what), -1);
            Bounds.due("count(" + what + ") of a new one", new StubKeep().count(what), -1);
        }
        Bounds.due("NONE", StubKeep.NONE, -1);
    }

    public static void main(String[] args) {
        forces();
        best();
        chance();
        mean();
        wanted();
        numbers();
        write();
        lists();
        image();
        restore();
        count();
        Bounds.finish(36, 46);
    }
}
