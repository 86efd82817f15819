/** Each promise by hand: ordinary inputs, the edges that the document names, wrong inputs. */
public final class PromisesTest {
    private static int wrong = 0;
    private static int checked = 0;

    private static void due(int promise, String call, long got, long want) {
        checked++;
        if (got != want) {
            wrong++;
            System.out.println("promise " + promise + ": " + call + " answered " + got + ", due is " + want);
        }
    }

    private static int feed(StubKeep x, String text) {
        int bytes = x.count(9);
        for (int from = 0; from < text.length(); from += 20) {
            int[] v = ModelTest.ints(text, from);
            bytes = x.feed(v[0], v[1], v[2], v[3], v[4]);
        }
        return bytes;
    }

    private static int tell(StubKeep x, String text) {
        feed(x, text);
        return x.life(text.length());
    }

    private static StubKeep of(String text) {
        StubKeep x = new StubKeep();
        int lines = tell(x, text);
        if (lines < 0) {
            wrong++;
            System.out.println("not read: " + text + " (" + lines + " at " + x.fault(1) + ")");
        }
        return x;
    }

    private static void tray(StubKeep x, int tray, long... numbers) {
        x.numbers(tray, 3, numbers.length);
        for (int i = 0; i < numbers.length; i++) x.write(tray, i, numbers[i]);
    }

    private static void fault(String text, int kind, int place) {
        StubKeep x = new StubKeep();
        due(3, "life of " + text, tell(x, text), -30 - kind);
        due(4, "fault(0) of " + text, x.fault(0), kind);
        due(4, "fault(1) of " + text, x.fault(1), place);
    }

    private static String times(int n, String part) { return part.repeat(n); }

    // ---- the life

    private static void newObject() {
        StubKeep x = new StubKeep();
        for (int what = 0; what <= 10; what++) due(1, "count(" + what + ")", x.count(what), 0);
        due(1, "doing(0, 0)", x.doing(0, 0), -2);
        due(1, "door(0)", x.door(0), -2);
        due(1, "fault(0)", x.fault(0), 0);
        due(1, "fault(1)", x.fault(1), -1);
        due(1, "stands()", x.stands(), 1);
        due(1, "mean(1)", x.mean(1), 1);
    }

    private static void tape() {
        StubKeep x = new StubKeep();
        for (int i = 1; i <= 45; i++) due(2, "feed", x.feed(0x20202020, 0x20202020, 0x20202020, 0x20202020, 0x20202020), 20 * i);
        due(2, "feed", x.feed(0, 0, 0, 0, 0), -5);
        due(2, "count(9)", x.count(9), 900);
        due(3, "life(-1)", x.life(-1), -3);
        due(3, "life(901)", x.life(901), -3);
        due(3, "count(9)", x.count(9), 900);
        due(4, "fault(1)", x.fault(1), -1);
        due(3, "life(900)", x.life(900), -32);
        due(4, "fault(1)", x.fault(1), 900);
        due(3, "count(9)", x.count(9), 0);
        due(3, "life(1)", x.life(1), -3);
        due(4, "fault(0)", x.fault(0), 2);
        due(3, "life(0)", x.life(0), -32);
        due(4, "fault(1)", x.fault(1), 0);
        due(4, "fault(2)", x.fault(2), -1);
        due(4, "fault(-1)", x.fault(-1), -1);
        // the highest byte of each int first, those above 127 too
        due(2, "feed", x.feed(0x6C696665, 0x20726F6F, 0x6D20393B, 0xE9000000, -1), 20);
        due(3, "life(13)", x.life(13), -31);
        due(4, "fault(1)", x.fault(1), 12);
        due(2, "feed", x.feed(0x6C696665, 0x20726F6F, 0x6D20393B, 0xE9000000, -1), 20);
        due(3, "life(12)", x.life(12), 1);
        due(3, "count(2)", x.count(2), 9);
        due(4, "fault(0)", x.fault(0), 0);
        due(4, "fault(1)", x.fault(1), -1);
    }

    private static void lives() {
        StubKeep x = of("life room 40;\n doing size 9edge 9 asked 10 burns 10 worth 9;doing  size 007 edge 1 edge 2 asked 0 worth 0 needs 0 needs 0 asked 3;"
            + "door 0;door 9;clash 1 0;clash 0 1;slip 9;slip 2;keeps:1=1;keeps:1=2;passes : slip = 2 ;");
        due(3, "count(10)", x.count(10), 12);
        due(3, "count(2)", x.count(2), 40);
        due(3, "count(7)", x.count(7), 2);
        int[][] want = {{0, 9, 9, 10, 10, 9, 0, 2}, {0, 7, 2, 3, 0, 0, 1, 1}};
        for (int d = 0; d < 2; d++) for (int what = 0; what < 8; what++) due(5, "doing(" + d + ", " + what + ")", x.doing(d, what), want[d][what]);
        due(5, "doing(0, 8)", x.doing(0, 8), -2);
        due(5, "doing(0, -1)", x.doing(0, -1), -2);
        due(5, "doing(2, 0)", x.doing(2, 0), -2);
        due(5, "doing(-1, 0)", x.doing(-1, 0), -2);
        due(6, "door(0)", x.door(0), 0);
        due(6, "door(1)", x.door(1), 9);
        due(6, "door(2)", x.door(2), -2);
        due(6, "door(-1)", x.door(-1), -2);
        due(9, "does(0): the later keeps counts", x.does(0), 2);
        // a fault leaves all as it is but for the tape
        due(3, "life", tell(x, "life room 3;doing size 1;door 10;"), -33);
        due(3, "count(2)", x.count(2), 40);
        due(3, "count(4)", x.count(4), 1);
        due(3, "count(8)", x.count(8), 1);
        due(3, "count(9)", x.count(9), 0);
        due(3, "count(10)", x.count(10), 12);
        // a new one: all OPEN, nothing to undo, nothing of the old one left
        due(3, "life", tell(x, "life room 3;doing size 3;"), 2);
        due(3, "count(4)", x.count(4), 0);
        due(3, "count(8)", x.count(8), 0);
        due(3, "count(1)", x.count(1), 0);
        due(3, "count(7)", x.count(7), 0);
        int[] fresh = {0, 3, 0, 5, 0, 1, 0, 0};
        for (int what = 0; what < 8; what++) due(5, "doing(0, " + what + ")", x.doing(0, what), fresh[what]);
        due(9, "does(0): no law any more", x.does(0), 1);
        StubKeep y = of("life room 1;" + times(8, "doing size 1 ;") + times(8, "door 1;"));
        due(46, "count(0)", y.count(0), 8);
        due(46, "count(1)", y.count(1), 8);
        due(46, "count(10)", y.count(10), 17);
    }

    private static void faults() {
        String head = "life room 9;";
        fault("", 2, 0);
        fault("  \n", 2, 3);
        fault("Life room 9;", 1, 0);
        fault("lifes room 9;", 2, 0);
        fault("liferoom 9;", 2, 0);
        fault("life room 41;", 3, 10);
        fault("life room 9", 2, 11);
        fault("life room 9 doing size 1;", 2, 12);
        fault("life room 1234;", 1, 10);
        fault("life room x1234;", 2, 10);
        fault("life 1234;", 1, 5);
        fault("life\troom 9;", 1, 4);
        fault("life\rroom 9;", 1, 4);
        fault(head + "life room 9;", 2, 12);
        fault(head + ";", 2, 12);
        fault(head + "size 1;", 2, 12);
        fault(head + "doing size 0;", 3, 23);
        fault(head + "doing size 10;", 3, 23);
        fault(head + "doing size 1 room;", 2, 25);
        fault(head + "doing size 1 edge 10;", 3, 30);
        fault(head + "doing size 1 asked 11;", 3, 31);
        fault(head + "doing size 1 burns 11;", 3, 31);
        fault(head + "doing size 1 worth 10;", 3, 31);
        fault(head + "doing size 1 needs 0;", 3, 31);
        fault(head + "doing size 1;doing size 1 needs 1;", 3, 44);
        fault(head + "doing size 1", 2, 24);
        fault(head + "doing size 1 edge;", 2, 29);
        fault(head + "door 10;", 3, 17);
        fault(head + "door -1;", 2, 17);
        fault(head + "clash 0 1;", 3, 18);
        fault(head + "doing size 1;clash 0 0;", 3, 33);
        fault(head + "doing size 1;clash 0 1;", 3, 33);
        fault(head + "doing size 1;clash 0 ;", 2, 33);
        fault(head + "slip 10;", 3, 17);
        fault(head + times(8, "door 1;") + "door", 4, 68);
        fault(head + times(8, "doing size 1;") + "doing 1234", 4, 116);
        fault(head + "keeps 1 = 1;", 2, 18);
        fault(head + "keeps : slip = 1;", 2, 20);
        fault(head + "passes : slip = room;", 2, 28);
        fault(head + "keeps : asked = 1;", 2, 20);
        fault(head + "keeps : 1 = 1 = 1;", 2, 26);
        fault(head + "keeps : 1 + = 1;", 2, 24);
        fault(head + "keeps : [ 1 ] = 1;", 2, 24);
        fault(head + "keeps : ( 1 = 1 );", 2, 24);
        fault(head + "keeps : [ 1 = 1 ;", 2, 28);
        fault(head + "keeps : 1 = 1 or ;", 2, 29);
        fault(head + "keeps : 1 = 1 and and;", 2, 30);
        fault(head + "keeps : not ;", 2, 24);
        fault(head + "keeps : 1 = ", 2, 24);
        fault(head + "keeps : 1000 = 1;", 1, 20);
        fault(head + "keeps : 1 ! 1;", 1, 22);
        fault(head + "keeps : not not not [[[not 1=1]]];", 4, 35);
        fault(head + "keeps : not not not [[[(1)=1]]];", 4, 35);
        fault(head + "keeps : [[[[[[[1=1]]]]]]];", 4, 26);
        fault(head + "keeps : ((((((1)))))) = (((((((1))))))) ;", 4, 42);
        fault(head + "keeps : ((((((]", 2, 26);
        fault(head + "keeps : not not not not not not or", 2, 44);
        // of one token the least kind, of several the first along the text
        fault(head + "door 10; !", 3, 17);
        fault(head + times(8, "door 1;") + "door 10;", 4, 68);
        fault(head + "keeps : [[[[[[ ] (", 2, 27);
        due(3, "six within one another", tell(new StubKeep(), head + "keeps : not [ not [ not [ 1 = 1 ] ] ] and [[[[[(1) = (2)]]]]];"), 2);
        due(3, "words and numbers without blanks", tell(new StubKeep(), "life room9;doing size1edge2needs;"), -32);
        due(3, "words and numbers without blanks", tell(new StubKeep(), "life room9;doing size1edge2;"), 2);
    }

    // ---- deeds

    private static final String CHAIN = "life room 4;doing size 2;doing size 2 needs 0;doing size 1 needs 1;doing size 3;";

    private static void lost() {
        StubKeep x = of(CHAIN);
        due(8, "open()", x.open(), 9);
        due(7, "putBack(0)", x.putBack(0), -5);
        due(7, "putBack(4)", x.putBack(4), -2);
        due(7, "putBack(-1)", x.putBack(-1), -2);
        x.does(0);
        due(7, "putBack(0)", x.putBack(0), 1);
        due(8, "open()", x.open(), 10);
        x.does(1);
        x.does(2);
        due(7, "putBack(0)", x.putBack(0), 7);
        due(7, "putBack(1)", x.putBack(1), 6);
        due(7, "putBack(2)", x.putBack(2), 4);
        due(8, "open()", x.open(), 8);
        StubKeep y = of("life room 9;doing size 1;doing size 1;doing size 1 needs 0 needs 1;");
        y.forge(2);
        y.does(0);
        due(8, "open(): a FORGED one needs as much", y.open(), 2);
        y.does(1);
        due(8, "open(): a FORGED one can be done", y.open(), 4);
    }

    private static void doing() {
        StubKeep x = of(CHAIN);
        due(9, "does(4)", x.does(4), -11);
        due(9, "does(-1)", x.does(-1), -11);
        due(9, "does(10)", x.does(10), -11);
        due(9, "does(100)", x.does(100), -11);
        due(9, "does(1)", x.does(1), -13);
        due(9, "count(8)", x.count(8), 0);
        due(9, "does(0)", x.does(0), 1);
        due(9, "does(0)", x.does(0), -12);
        due(9, "does(3): 2 of 3 left", x.does(3), 2);
        due(9, "does(1): just room", x.does(1), 1);
        due(9, "does(2): none left", x.does(2), 2);
        due(9, "count(3)", x.count(3), 0);
        due(9, "count(4)", x.count(4), 15);
        due(9, "count(5)", x.count(5), 3);
        due(5, "doing(2, 0)", x.doing(2, 0), 2);
        due(5, "doing(1, 0)", x.doing(1, 0), 1);
        // the false stub is gone ahead of the law and of the room
        StubKeep y = of("life room 3;doing size 2;doing size 3;keeps : held = 0 and left = 3;");
        due(11, "forge(1)", y.forge(1), 0);
        due(5, "doing(1, 0)", y.doing(1, 0), 3);
        due(9, "does(1)", y.does(1), 1);
        due(9, "does(0)", y.does(0), 2);
        // a law of all atoms, kept within its bounds
        StubKeep z = of("life room 40;doing size 3 edge 4;doing size 5 edge 6;"
            + "keeps : doing * 500 + size * 50 + edge * 10 + held = 811 and left = 37 or doing = 0;");
        due(9, "does(0)", z.does(0), 1);
        due(9, "does(1)", z.does(1), 1);
        StubKeep w = of("life room 9;doing size 1;keeps : 999 * 999 + 999 + 999 + 999 = 999 * 999 * 999 and 0 - 999 * 999 * 999 - 999 * 999 + 1 = 0 - 999 * 999 * 2 + 1;");
        due(9, "does(0): clamped at each sign", w.does(0), 1);
        StubKeep v = of("life room 9;doing size 1;doing size 1;doing size 1;doing size 1;"
            + "keeps : doing = 0 or doing = 1 and held = 5 or not doing < 2 and not [ doing = 3 or 1 > 2 ];");
        due(9, "does(0)", v.does(0), 1);
        due(9, "does(1)", v.does(1), 2);
        due(9, "does(2)", v.does(2), 1);
        due(9, "does(3)", v.does(3), 2);
        StubKeep u = of("life room 9;doing size 1;keeps : 9 - 3 - 2 = 4 and 2 + 3 * 4 = 14 and (2 + 3) * 4 = 20 and 5 > 4 and 4 < 5;");
        due(9, "does(0): from the left, * first", u.does(0), 1);
        // a text of just 900 bytes, and what stands at the end of its law still counts
        StubKeep t = of("life room 9;doing size 1;keeps:" + times(431, "1+") + "0=432;");
        due(9, "does(0): a law of 433 numbers, 899 bytes", t.does(0), 2);
        String most = "life room 9;doing size 1;keeps:" + times(431, "1+") + "1=432;";
        StubKeep s = of(most + times(900 - most.length(), " "));
        due(9, "does(0): 900 bytes", s.does(0), 1);
        // the law is as deep as can be on both sides of each sign
        StubKeep r = of("life room 9;doing size 1;keeps:1=2 or 1=1 and 3=1+1*(1+1*(1-0*(5+1*(0+1*(2-1*(3-2)*1)*1))))-0;");
        due(9, "does(0): six within one another", r.does(0), 1);
    }

    private static void dropping() {
        StubKeep x = of(CHAIN);
        due(10, "drop(0)", x.drop(0), -12);
        due(10, "drop(4)", x.drop(4), -11);
        due(10, "drop(-1)", x.drop(-1), -11);
        x.does(0);
        x.does(1);
        due(10, "drop(0)", x.drop(0), 1);
        due(10, "doing(0, 0)", x.doing(0, 0), 2);
        due(10, "drop(0)", x.drop(0), -12);
        due(10, "forge(2)", x.forge(2), 1);
        due(10, "drop(2)", x.drop(2), 1);
        due(10, "doing(2, 0)", x.doing(2, 0), 0);
        due(10, "count(4)", x.count(4), 3);
    }

    private static void forging() {
        StubKeep x = of(CHAIN);
        due(11, "forge(4)", x.forge(4), -11);
        due(11, "forge(-1)", x.forge(-1), -11);
        due(11, "forge(2): its needs don't count", x.forge(2), 3);
        due(11, "forge(2)", x.forge(2), -12);
        due(11, "forge(3): just room", x.forge(3), 0);
        due(11, "forge(0)", x.forge(0), -14);
        due(11, "count(6)", x.count(6), 12);
        due(11, "count(4)", x.count(4), 0);
        x.does(0);
        due(11, "forge(0): BARE", x.forge(0), -12);
        due(11, "forge(1): of two the first told", x.forge(1), -14);
        StubKeep y = of("life room 9;doing size 9;keeps : 1 = 2;");
        due(11, "forge(0): no law", y.forge(0), 0);
    }

    private static void asking() {
        StubKeep x = of(CHAIN);
        due(12, "ask(4)", x.ask(4), -11);
        due(12, "ask(-1)", x.ask(-1), -11);
        due(12, "ask(0): OPEN", x.ask(0), 0);
        due(12, "count(8)", x.count(8), 1);
        x.does(0);
        x.does(1);
        x.does(2);
        due(12, "ask(0): SHOWN", x.ask(0), 0);
        x.drop(0);
        due(12, "ask(0): BARE", x.ask(0), 7);
        due(12, "count(4)", x.count(4), 0);
        due(12, "count(5)", x.count(5), 0);
        x.does(0);
        x.forge(1);
        x.drop(0);
        due(12, "ask(0): a FORGED one that needs it stays", x.ask(0), 1);
        due(12, "count(6)", x.count(6), 2);
        due(12, "ask(1): no law, it never passes", x.ask(1), 2);
        due(12, "count(6)", x.count(6), 0);
        StubKeep y = of("life room 9;doing size 2 edge 5;doing size 3 edge 1;slip 4;passes : edge > slip and held = 2 and left = 4;");
        y.forge(0);
        y.forge(1);
        due(12, "ask(0): it passes, itself held", y.ask(0), 0);
        due(12, "ask(1): it doesn't", y.ask(1), 2);
        due(12, "ask(0): one is held now", y.ask(0), 1);
        due(12, "ask(0): OPEN", y.ask(0), 0);
        due(12, "count(8)", y.count(8), 6);
    }

    private static void slips() {
        StubKeep x = of("life room 9;doing size 1 edge 5;slip 7;passes : slip < 6;");
        due(13, "slip(10)", x.slip(10), -11);
        due(13, "slip(-1)", x.slip(-1), -11);
        due(13, "slip(9)", x.slip(9), 7);
        due(13, "slip(9)", x.slip(9), 9);
        due(13, "count(8): having the same one is a deed", x.count(8), 2);
        due(13, "slip(0)", x.slip(0), 9);
        x.forge(0);
        due(13, "ask(0)", x.ask(0), 0);
        x.slip(6);
        due(13, "ask(0)", x.ask(0), 1);
    }

    private static void undoing() {
        StubKeep x = of(CHAIN);
        due(14, "undo(1)", x.undo(1), -3);
        due(14, "undo(0)", x.undo(0), -3);
        x.does(0);
        x.slip(5);
        x.drop(0);
        due(14, "undo(4)", x.undo(4), -3);
        due(14, "undo(-1)", x.undo(-1), -3);
        due(14, "undo(1)", x.undo(1), 2);
        due(14, "doing(0, 0)", x.doing(0, 0), 1);
        due(14, "count(7)", x.count(7), 5);
        due(14, "undo(2)", x.undo(2), 0);
        due(14, "count(4)", x.count(4), 0);
        due(14, "count(7)", x.count(7), 0);
        for (int i = 0; i < 12; i++) x.slip(i % 10);
        due(14, "count(8)", x.count(8), 10);
        due(14, "undo(11)", x.undo(11), -3);
        due(14, "undo(10): eldest are forgotten", x.undo(10), 0);
        due(14, "count(7)", x.count(7), 1);
        due(14, "does(1): refused", x.does(1), -13);
        due(14, "count(8)", x.count(8), 0);
    }

    private static void judging() {
        StubKeep x = of(CHAIN);
        due(15, "judge(0, 0)", x.judge(0, 0), -6);
        due(15, "judge(4, 0)", x.judge(4, 0), -2);
        due(15, "judge(-1, 0)", x.judge(-1, 0), -2);
        due(15, "judge(0, 4)", x.judge(0, 4), -2);
        due(15, "judge(0, -1)", x.judge(0, -1), -2);
        tray(x, 0);
        long[] none = {-1, 0, 0, 0};
        for (int what = 0; what < 4; what++) due(15, "judge of none, " + what, x.judge(0, what), none[what]);
        due(16, "perform of none", x.perform(0), 0);
        due(16, "count(8)", x.count(8), 0);
        tray(x, 1, 0, 10, 22, 30, 45, 1, 0);
        long[] want = {5, 3, 0, 4};
        for (int what = 0; what < 4; what++) due(15, "judge(1, " + what + ")", x.judge(1, what), want[what]);
        due(15, "count(4): as if", x.count(4), 0);
        due(16, "perform(1)", x.perform(1), 5);
        due(16, "count(5)", x.count(5), 4);
        due(16, "count(7)", x.count(7), 5);
        due(16, "count(8): one call", x.count(8), 1);
        due(16, "undo(1)", x.undo(1), 0);
        due(16, "count(5)", x.count(5), 0);
        due(16, "count(7)", x.count(7), 0);
        due(16, "perform(2)", x.perform(2), -6);
        due(16, "perform(4)", x.perform(4), -2);
        due(16, "perform(-1)", x.perform(-1), -2);
        long[][] why = {{50, 1}, {-1, 1}, {4, 1}, {9, 1}, {14, 1}, {29, 1}, {38, 1}, {10, 2}, {1, 3}, {Long.MIN_VALUE, 1}, {1L << 32, 1}};
        for (long[] w : why) {
            tray(x, 2, w[0]);
            due(15, "judge of " + w[0], x.judge(2, 1), w[1]);
            due(15, "judge of " + w[0], x.judge(2, 0), 0);
            due(16, "perform of " + w[0], x.perform(2), 0);
        }
        tray(x, 2, 0, 1, 22);
        due(15, "judge: no room", x.judge(2, 1), 4);
        tray(x, 2, 40, 49, 33);
        due(15, "judge: all can be", x.judge(2, 1), 0);
        due(16, "perform", x.perform(2), 3);
        due(16, "count(7)", x.count(7), 9);
    }

    private static void years() {
        StubKeep x = of(CHAIN);
        due(17, "year(1, 0)", x.year(1, 0), -3);
        due(17, "year(1, 41)", x.year(1, 41), -3);
        due(17, "year(1, -1)", x.year(1, -1), -3);
        // the same draws, told as deeds one by one
        for (int seed = -3; seed < 6; seed++) {
            int draw = seed * 77777;
            int could = 0;
            StubKeep y = of(CHAIN);
            StubKeep z = of(CHAIN);
            for (int i = 0; i < 40; i++) {
                draw = draw * 1103515245 + 12345;
                int kind = (draw >>> 16) & 7;
                draw = draw * 1103515245 + 12345;
                int d = (draw >>> 16) & 7;
                int got = kind < 4 ? y.does(d) : kind == 4 ? y.drop(d) : kind == 5 ? y.forge(d) : y.ask(d);
                if (got >= 0) could++;
            }
            due(17, "year(" + seed * 77777 + ", 40)", z.year(seed * 77777, 40), could);
            due(17, "count(4)", z.count(4), y.count(4));
            due(17, "count(5)", z.count(5), y.count(5));
            due(17, "count(8)", z.count(8), 1);
            due(17, "undo(1)", z.undo(1), 0);
            due(17, "count(4)", z.count(4), 0);
        }
        StubKeep none = new StubKeep();
        due(17, "year without a life", none.year(5, 40), 0);
        due(17, "count(8): it did none", none.count(8), 0);
    }

    // ---- coming

    private static void coming() {
        StubKeep x = of("life room 5;doing size 2;doing size 2 needs 0;doing size 3 needs 0;doing size 1 needs 1 needs 2;");
        due(18, "soonest(8)", x.soonest(8), 4);
        due(18, "soonest(0)", x.soonest(0), 0);
        due(18, "soonest(16)", x.soonest(16), -3);
        due(18, "soonest(-1)", x.soonest(-1), -3);
        long[] way = {0, 1, 2, 3, -1};
        for (int i = 0; i < 5; i++) due(19, "way(8, " + i + ")", x.way(8, i), way[i]);
        due(19, "way(8, -1)", x.way(8, -1), -3);
        due(19, "way(16, 0)", x.way(16, 0), -3);
        due(20, "shown(6)", x.shown(6), 4);
        long[] by = {0, 1, 10, 2, -1};
        for (int i = 0; i < 5; i++) due(21, "shownBy(6, " + i + ")", x.shownBy(6, i), by[i]);
        due(20, "shown(7): 7 of 5", x.shown(7), -1);
        due(21, "shownBy(7, 0)", x.shownBy(7, 0), -1);
        due(21, "shownBy(7, -1)", x.shownBy(7, -1), -3);
        due(20, "shown(-1)", x.shown(-1), -3);
        due(21, "shownBy(16, 0)", x.shownBy(16, 0), -3);
        due(18, "count(4): nothing is done by it", x.count(4), 0);
        // what is BARE stays BARE, nothing but DOING and DROPPING
        StubKeep y = of("life room 2;doing size 1;doing size 2;doing size 1;");
        y.does(1);
        y.does(0);
        due(20, "shown(1)", y.shown(1), -1);
        due(20, "shown(2)", y.shown(2), 0);
        due(20, "shown(4)", y.shown(4), 2);
        due(21, "shownBy(4, 0)", y.shownBy(4, 0), 11);
        due(21, "shownBy(4, 1)", y.shownBy(4, 1), 2);
        due(18, "soonest(7)", y.soonest(7), 1);
        // a FORGED one can be dropped, or done
        StubKeep z = of("life room 2;doing size 2;doing size 2;");
        z.forge(1);
        due(20, "shown(1)", z.shown(1), 2);
        due(21, "shownBy(1, 0)", z.shownBy(1, 0), 11);
        due(20, "shown(2)", z.shown(2), 1);
        due(24, "stands()", z.stands(), 10);
    }

    private static void rows() {
        StubKeep x = of("life room 2;doing size 1;doing size 1;");
        due(22, "rows(0, 0)", x.rows(0, 0), 1);
        due(22, "rows(1, 0)", x.rows(1, 0), 0);
        due(22, "rows(3, 2)", x.rows(3, 2), 2);
        // 0 then 1 or 10, 1 then 0 or 11
        due(22, "rows(0, 2)", x.rows(0, 2), 4);
        // the two dones and two drops, each drop behind its done
        due(22, "rows(0, 4)", x.rows(0, 4), 6);
        due(22, "rows(0, 5)", x.rows(0, 5), 0);
        due(22, "rows(0, 9)", x.rows(0, 9), -3);
        due(22, "rows(0, -1)", x.rows(0, -1), -3);
        due(22, "rows(4, 1)", x.rows(4, 1), -3);
        StubKeep y = of("life room 40;" + times(8, "doing size 1;"));
        due(22, "rows(255, 8)", y.rows(255, 8), 40320);
        due(22, "rows(255, 7)", y.rows(255, 7), 0);
        // all rows of 8: k drops behind their dones, 8! / k! / ... : counted by hand for 1 and 2
        due(22, "rows(0, 1)", y.rows(0, 1), 8);
        due(22, "rows(0, 2)", y.rows(0, 2), 64);
        due(24, "stands()", y.stands(), 6561);
        due(23, "most()", y.most(), 8);
        due(23, "most()", of("life room 5;doing size 2;doing size 3;doing size 1;").most(), 2);
        StubKeep z = of("life room 5;doing size 2;doing size 5;");
        z.does(0);
        z.does(1);
        due(23, "most(): BARE can't come back", z.most(), 1);
        due(24, "stands(): as it is, too", z.stands(), 2);
        z.drop(0);
        due(24, "stands()", z.stands(), 1);
        due(23, "most()", z.most(), 0);
        StubKeep w = of("life room 40;" + times(8, "doing size 1;"));
        for (int d = 0; d < 8; d++) w.forge(d);
        due(24, "stands() of all FORGED", w.stands(), 65536);
        due(20, "shown(255)", w.shown(255), 8);
    }

    // ---- packing, orders, halves

    private static void packing() {
        StubKeep x = of("life room 4;doing size 2 asked 4 worth 2;doing size 2 needs 0 asked 10 worth 3;doing size 3 needs 1 asked 10 worth 0;doing size 1 asked 0 worth 9;");
        due(25, "gain(0)", x.gain(0), -5);
        due(25, "gain(4)", x.gain(4), -2);
        due(25, "gain(-1)", x.gain(-1), -2);
        due(26, "pack(0)", x.pack(0), 0);
        for (int d = 0; d < 4; d++) x.does(d);
        due(25, "gain(0)", x.gain(0), 20);
        due(25, "gain(1)", x.gain(1), 30);
        due(25, "gain(2)", x.gain(2), 0);
        due(25, "gain(3)", x.gain(3), 0);
        due(26, "pack(0)", x.pack(0), 50);
        due(26, "pack(1)", x.pack(1), 3);
        due(26, "pack(2)", x.pack(2), -2);
        due(26, "pack(-1)", x.pack(-1), -2);
        StubKeep y = of("life room 2;doing size 2 asked 1;doing size 1 asked 1 worth 0;doing size 2 asked 1;doing size 1;");
        y.does(2);
        y.does(0);
        y.does(1);
        y.forge(3);
        due(26, "pack(1): the least set", y.pack(1), 1);
        due(26, "pack(0)", y.pack(0), 1);
    }

    private static void orders() {
        StubKeep x = of("life room 9;doing size 1;doing size 1;doing size 1 needs 0;doing size 1;");
        due(27, "orders(0)", x.orders(0), -6);
        due(27, "orders(4)", x.orders(4), -2);
        due(27, "orders(-1)", x.orders(-1), -2);
        tray(x, 0);
        due(27, "orders: nothing done, nothing told", x.orders(0), 1);
        due(28, "order(0, 0)", x.order(0, 0), -1);
        x.does(0);
        x.does(1);
        x.does(2);
        due(27, "orders(0)", x.orders(0), 3);
        long[] first = {0, 1, 2, -1};
        for (int i = 0; i < 4; i++) due(28, "order(0, " + i + ")", x.order(0, i), first[i]);
        due(28, "order(0, -1)", x.order(0, -1), -3);
        due(28, "order(4, -1)", x.order(4, -1), -2);
        due(28, "order(3, -1)", x.order(3, -1), -6);
        due(29, "ahead(0, 0, 1)", x.ahead(0, 0, 1), 2);
        due(29, "ahead(0, 1, 0)", x.ahead(0, 1, 0), 1);
        due(29, "ahead(0, 0, 2)", x.ahead(0, 0, 2), 3);
        due(29, "ahead(0, 2, 0)", x.ahead(0, 2, 0), 0);
        due(29, "ahead(0, 0, 0)", x.ahead(0, 0, 0), -2);
        due(29, "ahead(0, 0, 4)", x.ahead(0, 0, 4), -2);
        due(29, "ahead(0, -1, 0)", x.ahead(0, -1, 0), -2);
        due(29, "ahead(3, 0, 0)", x.ahead(3, 0, 0), -2);
        due(29, "ahead(3, 0, 3)", x.ahead(3, 0, 3), -6);
        due(29, "ahead(0, 0, 3)", x.ahead(0, 0, 3), -5);
        due(29, "ahead(0, 3, 0)", x.ahead(0, 3, 0), -5);
        tray(x, 1, 10);
        due(27, "orders: 1 ahead of 0", x.orders(1), 1);
        due(28, "order(1, 0)", x.order(1, 0), 1);
        due(28, "order(1, 1)", x.order(1, 1), 0);
        due(29, "ahead(1, 1, 2)", x.ahead(1, 1, 2), 1);
        tray(x, 1, 20);
        due(27, "orders: against its needs", x.orders(1), 0);
        due(28, "order: there is none", x.order(1, 0), -1);
        due(28, "order: i", x.order(1, -1), -3);
        for (long bad : new long[] {11, 3, 30, 8, 80, 100, -1, -10, 1L << 40}) {
            tray(x, 1, 10, bad);
            due(27, "orders told " + bad, x.orders(1), -3);
            due(29, "ahead told " + bad, x.ahead(1, 0, 3), -3);
        }
        tray(x, 1, 1, 1, 1, 1, 1, 1, 1, 1, 1, 1, 1, 1);
        due(27, "orders of 12", x.orders(1), 2);
        tray(x, 1, 11, 1, 1, 1, 1, 1, 1, 1, 1, 1, 1, 1, 1);
        due(27, "orders of 13", x.orders(1), -4);
        due(28, "order of 13", x.order(1, -1), -4);
        StubKeep y = of("life room 9;" + times(8, "doing size 1;"));
        tray(y, 0);
        for (int d = 0; d < 8; d++) y.does(d);
        due(27, "orders of 8", y.orders(0), 40320);
        due(29, "ahead(0, 7, 0)", y.ahead(0, 7, 0), 20160);
    }

    private static void halves() {
        StubKeep x = of("life room 9;doing size 1 edge 3;doing size 1 edge 3;doing size 1 edge 6;doing size 1 edge 3;doing size 1 edge 9;"
            + "door 6;door 3;door 6;door 0;door 3;");
        due(30, "join(0)", x.join(0), 0);
        due(31, "over()", x.over(), 31);
        due(30, "join(10)", x.join(10), -1);
        for (int d = 0; d < 5; d++) x.does(d);
        due(30, "join(0)", x.join(0), 4);
        long[] doors = {0, 2, 1, -1, 3};
        for (int d = 0; d < 5; d++) due(30, "join(" + (10 + d) + ")", x.join(10 + d), doors[d]);
        due(31, "over()", x.over(), 16);
        x.drop(0);
        due(30, "join(10): BARE", x.join(10), -1);
        due(30, "join(11)", x.join(11), 0);
        due(30, "join(13)", x.join(13), 2);
        due(30, "join(15)", x.join(15), -2);
        due(30, "join(9)", x.join(9), -2);
        due(30, "join(1)", x.join(1), -2);
        due(30, "join(-1)", x.join(-1), -2);
        StubKeep y = of("life room 9;doing size 1 edge 4;door 5;");
        y.forge(0);
        due(30, "join(0): FORGED", y.join(0), 0);
        due(31, "over()", y.over(), 1);
    }

    // ---- slips, linings

    private static void passed() {
        StubKeep x = of("life room 9;doing size 1 edge 5;doing size 1 edge 7;doing size 1 edge 2;doing size 1;passes : edge > slip + held;");
        x.forge(0);
        x.forge(1);
        x.does(2);
        due(32, "slips(0)", x.slips(0), -6);
        due(32, "slips(4)", x.slips(4), -2);
        due(33, "attempt(0)", x.attempt(0), -6);
        due(33, "attempt(-1)", x.attempt(-1), -2);
        tray(x, 0);
        due(32, "slips of none", x.slips(0), -4);
        due(33, "attempt of none", x.attempt(0), -4);
        tray(x, 0, 1, 1, 1, 1, 1, 1, 1, 1, 1, 1, 1, 1, 1);
        due(32, "slips of 13", x.slips(0), -4);
        tray(x, 0, 1, 1, 1, 1, 1, 1, 1, 1, 1, 1, 1, 1);
        due(32, "slips of 12", x.slips(0), 3);
        for (long bad : new long[] {4, 5, 6, 8, -1, -2, 16, 20, 1L << 33}) {
            tray(x, 0, 1, bad);
            due(32, "slips told " + bad, x.slips(0), -3);
            due(33, "attempt told " + bad, x.attempt(0), -3);
        }
        // with held 3: 0 passes below 2, 1 passes below 4
        tray(x, 0, 0);
        due(32, "slips(0)", x.slips(0), 1020);
        due(33, "attempt(0)", x.attempt(0), 1);
        tray(x, 0, 3);
        due(32, "slips(0)", x.slips(0), 15);
        due(33, "attempt(0): two and two", x.attempt(0), 0);
        tray(x, 0, 3, 0);
        due(32, "slips(0)", x.slips(0), 12);
        due(33, "attempt(0): of like ones the first", x.attempt(0), 0);
        tray(x, 0, 1, 2);
        due(32, "slips: none", x.slips(0), 0);
        due(33, "attempt: there are none", x.attempt(0), -1);
        StubKeep y = of("life room 9;doing size 1;");
        y.forge(0);
        tray(y, 0, 0);
        due(32, "slips without a law", y.slips(0), 1023);
        tray(y, 0, 1);
        due(32, "slips without a law", y.slips(0), 0);
    }

    private static void linings() {
        StubKeep x = of("life room 9;" + times(5, "doing size 1;") + "clash 0 1;clash 1 2;clash 2 3;clash 3 4;clash 4 0;");
        due(34, "linings(0)", x.linings(0), 0);
        due(35, "clique()", x.clique(), 0);
        for (int d = 0; d < 5; d++) x.does(d);
        due(34, "linings(0): a ring of five", x.linings(0), 3);
        long[] in = {0, 1, 0, 1, 2};
        for (int d = 0; d < 5; d++) due(34, "linings(" + (10 + d) + ")", x.linings(10 + d), in[d]);
        due(35, "clique()", x.clique(), 3);
        x.drop(2);
        x.ask(2);
        due(34, "linings(0)", x.linings(0), 2);
        due(34, "linings(12): not done", x.linings(12), -1);
        due(34, "linings(14)", x.linings(14), 1);
        due(34, "linings(13)", x.linings(13), 0);
        due(34, "linings(15)", x.linings(15), -2);
        due(34, "linings(9)", x.linings(9), -2);
        due(34, "linings(1)", x.linings(1), -2);
        due(34, "linings(-1)", x.linings(-1), -2);
        // the first is not the greedy one: 0 and 3 clash with what needs the same lining
        StubKeep y = of("life room 9;" + times(4, "doing size 1;") + "clash 0 2;clash 1 2;clash 1 3;");
        for (int d = 0; d < 4; d++) y.does(d);
        due(34, "linings(0)", y.linings(0), 2);
        due(34, "linings(11)", y.linings(11), 0);
        due(34, "linings(13)", y.linings(13), 1);
        StubKeep z = of("life room 9;" + times(4, "doing size 1;") + "clash 0 3;clash 1 2;clash 2 3;");
        for (int d = 0; d < 4; d++) z.does(d);
        due(34, "linings(0)", z.linings(0), 2);
        due(34, "linings(11): 0 would ask for a third", z.linings(11), 1);
        due(35, "clique(): the least set", z.clique(), 6);
        StubKeep w = of("life room 9;" + times(4, "doing size 1;") + "clash 0 1;clash 1 2;clash 2 3;clash 1 3;");
        for (int d = 0; d < 4; d++) w.does(d);
        due(35, "clique()", w.clique(), 14);
        due(34, "linings(0)", w.linings(0), 3);
        StringBuilder all = new StringBuilder("life room 9;" + times(8, "doing size 1;"));
        for (int d = 0; d < 8; d++) for (int e = 0; e < d; e++) all.append("clash ").append(d).append(' ').append(e).append(';');
        StubKeep v = of(all.toString());
        for (int d = 0; d < 8; d++) v.does(d);
        due(35, "clique() of all", v.clique(), 255);
        due(34, "linings(0): each by itself", v.linings(0), 8);
        due(34, "linings(17)", v.linings(17), 7);
    }

    // ---- by turns, fires

    private static void turns() {
        StubKeep x = of("life room 2;doing size 2;doing size 1 needs 0;doing size 1;doing size 3 needs 0;");
        due(36, "forces(16)", x.forces(16), -3);
        due(36, "forces(-1)", x.forces(-1), -3);
        due(37, "best(16)", x.best(16), -3);
        due(36, "forces(0)", x.forces(0), 0);
        due(37, "best(0)", x.best(0), -1);
        due(36, "forces(1)", x.forces(1), 1);
        due(37, "best(1)", x.best(1), 0);
        due(36, "forces(8): no room", x.forces(8), -1);
        due(37, "best(8)", x.best(8), -1);
        // 1 needs 0, whose stub takes all room: once dropped it is asked for
        due(36, "forces(2)", x.forces(2), -1);
        due(36, "forces(4)", x.forces(4), 1);
        due(36, "forces(5)", x.forces(5), -1);
        x.does(0);
        due(36, "forces(4)", x.forces(4), 2);
        due(37, "best(4)", x.best(4), 10);
        due(36, "forces(1): it is so", x.forces(1), 0);
        due(36, "count(8): nothing is done by it", x.count(8), 1);
        StubKeep y = of("life room 9;doing size 1;doing size 1 needs 0;doing size 1 needs 1;doing size 1 needs 2;");
        due(36, "forces(7)", y.forces(7), 3);
        due(36, "forces(15): four turns", y.forces(15), -1);
        due(37, "best(4)", y.best(4), 0);
        // a false stub in the way: the officer must ask for it, so none helps, one drops it
        StubKeep z = of("life room 2;doing size 2;doing size 1;");
        z.forge(1);
        due(36, "forces(1)", z.forces(1), 2);
        due(37, "best(1)", z.best(1), 11);
    }

    private static void fires() {
        StubKeep x = of("life room 3;doing size 2 burns 5 asked 4;doing size 1 burns 10 asked 10 needs 0;doing size 1 asked 3;doing size 1 asked 9 needs 0;");
        due(38, "chance(0, 0)", x.chance(0, 0), -5);
        due(38, "chance(4, 0)", x.chance(4, 0), -2);
        due(38, "chance(-1, 0)", x.chance(-1, 0), -2);
        due(38, "chance(0, 2)", x.chance(0, 2), -2);
        due(38, "chance(0, -1)", x.chance(0, -1), -2);
        due(39, "mean(0)", x.mean(0), 0);
        due(39, "mean(1)", x.mean(1), 1);
        due(39, "mean(2)", x.mean(2), -2);
        due(39, "mean(-1)", x.mean(-1), -2);
        due(40, "wanted()", x.wanted(), -1);
        for (int d = 0; d < 4; d++) x.does(d);
        // 0 SHOWN: 1 - 5/10 * 4/10 = 4/5. 1 SHOWN: burns and is asked for surely: 0. 2 BARE: 7/10. 3 BARE: 4/5 * 1/10
        long[][] want = {{4, 5}, {0, 1}, {7, 10}, {2, 25}};
        for (int d = 0; d < 4; d++) {
            due(38, "chance(" + d + ", 0)", x.chance(d, 0), want[d][0]);
            due(38, "chance(" + d + ", 1)", x.chance(d, 1), want[d][1]);
        }
        // 4/5 + 7/10 + 2/25 = 79/50
        due(39, "mean(0)", x.mean(0), 79);
        due(39, "mean(1)", x.mean(1), 50);
        // 2 SHOWN gives 3/10 more, 3 SHOWN 4/5 * 9/10
        due(40, "wanted()", x.wanted(), 3);
        x.drop(0);
        // 0 BARE: 3/5, SHOWN 4/5: 0 and 3 gain 1/5 and 1/50; 3 SHOWN: 3/5 * 9/10 = 27/50
        due(40, "wanted()", x.wanted(), 3);
        StubKeep y = of("life room 0;doing size 1;doing size 1;");
        y.does(1);
        y.does(0);
        due(40, "wanted(): the first", y.wanted(), 0);
        due(39, "mean(0)", y.mean(0), 1);
        due(39, "mean(1)", y.mean(1), 1);
        StringBuilder all = new StringBuilder("life room 40;doing size 1 burns 1 asked 1;");
        for (int d = 1; d < 8; d++) all.append("doing size 1 burns 1 asked 1 needs ").append(d - 1).append(";");
        StubKeep z = of(all.toString());
        for (int d = 0; d < 8; d++) z.does(d);
        due(38, "chance(7, 0): 99 to the 8th", z.chance(7, 0), 9227446944279201L);
        due(38, "chance(7, 1)", z.chance(7, 1), 10000000000000000L);
    }

    // ---- trays, images

    private static void trays() {
        StubKeep x = of("life room 2;doing size 1;doing size 2;");
        due(41, "numbers(4, 0, 1)", x.numbers(4, 0, 1), -2);
        due(41, "numbers(-1, 0, 1)", x.numbers(-1, 0, 1), -2);
        due(41, "numbers(0, 4, 1)", x.numbers(0, 4, 1), -2);
        due(41, "numbers(0, -1, 41)", x.numbers(0, -1, 41), -2);
        due(41, "numbers(0, 0, 41)", x.numbers(0, 0, 41), -3);
        due(41, "numbers(0, 0, -1)", x.numbers(0, 0, -1), -3);
        due(42, "write(0, 0, 0)", x.write(0, 0, 0), -6);
        due(42, "write(4, 0, 0)", x.write(4, 0, 0), -2);
        due(42, "write(-1, 0, 0)", x.write(-1, 0, 0), -2);
        long v = 0x123456789ABCDEF0L;
        long[] cut = {(byte) v, (short) v, (int) v, v};
        for (int sort = 0; sort < 4; sort++) {
            due(41, "numbers(" + sort + ", " + sort + ", 40)", x.numbers(sort, sort, 40), 0);
            due(42, "write(" + sort + ", 39, v)", x.write(sort, 39, v), cut[sort]);
            due(42, "write(" + sort + ", 40, v)", x.write(sort, 40, v), -7);
            due(42, "write(" + sort + ", -1, v)", x.write(sort, -1, v), -7);
        }
        due(42, "write(0, 0, 128)", x.write(0, 0, 128), -128);
        due(42, "write(0, 0, 256)", x.write(0, 0, 256), 0);
        due(41, "numbers(0, 0, 41): it stays", x.numbers(0, 0, 41), -3);
        due(42, "write(0, 39, 5)", x.write(0, 39, 5), 5);
        due(41, "numbers(0, 2, 2): all 0", x.numbers(0, 2, 2), 0);
        due(15, "judge(0, 0): to DO 0 twice", x.judge(0, 0), 1);
        due(42, "write(0, 2, 5)", x.write(0, 2, 5), -7);
        due(41, "numbers(1, 0, 0)", x.numbers(1, 0, 0), 0);
        due(42, "write(1, 0, 5)", x.write(1, 0, 5), -7);
        due(43, "lists(4, 0)", x.lists(4, 0), -2);
        due(43, "lists(0, 4)", x.lists(0, 4), -3);
        due(43, "lists(0, 3): there is none", x.lists(0, 3), -5);
        x.does(1);
        x.write(0, 1, 7);
        due(43, "lists(0, 2)", x.lists(0, 2), 0);
        due(15, "judge(0, 0): the TRAY is as it was", x.judge(0, 0), 1);
        due(43, "lists(0, 1)", x.lists(0, 1), 2);
        due(16, "perform(0): drop 1, do 0", x.perform(0), 2);
        due(43, "count(5)", x.count(5), 1);
        x.undo(1);
        due(43, "lists(1, 1): no places", x.lists(1, 1), 0);
        x.numbers(2, 0, 1);
        due(43, "lists(2, 1): as far as it has places", x.lists(2, 1), 1);
        due(16, "perform(2)", x.perform(2), 1);
        due(43, "count(5)", x.count(5), 0);
        due(43, "lists of a MISSING one", new StubKeep().lists(0, 1), -6);
    }

    private static void images() {
        StubKeep x = of("life room 2;doing size 1 edge 4;door 5;slip 3;keeps : held = 0;");
        due(44, "image(2)", x.image(2), -2);
        due(44, "image(-1)", x.image(-1), -2);
        due(45, "restore(0)", x.restore(0), -5);
        due(45, "restore(2)", x.restore(2), -2);
        due(45, "restore(-1)", x.restore(-1), -2);
        x.does(0);
        x.slip(8);
        due(44, "image(1)", x.image(1), 0);
        due(44, "count(8): it stays", x.count(8), 2);
        due(45, "restore(0): none was made", x.restore(0), -5);
        tell(x, "life room 9;doing size 2;doing size 3;");
        x.does(1);
        due(44, "image(0)", x.image(0), 0);
        x.numbers(0, 0, 3);
        feed(x, "left here");
        due(45, "restore(1)", x.restore(1), 0);
        int[] want = {1, 1, 2, 1, 1, 1, 0, 8, 0, 20, 5};
        for (int what = 0; what <= 10; what++) due(45, "count(" + what + ")", x.count(what), want[what]);
        due(45, "undo(1)", x.undo(1), -3);
        due(45, "doing(0, 2)", x.doing(0, 2), 4);
        due(30, "join(0)", x.join(0), 1);
        x.drop(0);
        due(45, "restore(1): again", x.restore(1), 0);
        due(45, "count(5)", x.count(5), 1);
        x.drop(0);
        x.ask(0);
        x.forge(0);
        due(45, "does(0): the law is back", x.does(0), 1);
        due(45, "restore(0)", x.restore(0), 0);
        due(45, "count(0)", x.count(0), 2);
        due(45, "count(4)", x.count(4), 2);
        due(45, "does(0): no law", x.does(0), 1);
        due(45, "write(0, 2, 1): TRAYS stay", x.write(0, 2, 1), 1);
        StubKeep y = new StubKeep();
        y.slip(4);
        due(44, "image without a life", y.image(0), 0);
        tell(y, "life room 1;");
        due(45, "restore(0)", y.restore(0), 0);
        due(45, "count(7)", y.count(7), 4);
        due(45, "count(10)", y.count(10), 0);
    }

    private static void counts() {
        StubKeep x = of("life room 9;doing size 1;doing size 2;doing size 3;door 1;slip 6;");
        x.does(0);
        x.drop(0);
        x.does(1);
        x.forge(2);
        int[] want = {3, 1, 9, 4, 3, 6, 4, 6, 4, 0, 6};
        for (int what = 0; what <= 10; what++) due(46, "count(" + what + ")", x.count(what), want[what]);
        due(46, "count(11)", x.count(11), -1);
        due(46, "count(-1)", x.count(-1), -1);
        due(46, "NONE", StubKeep.NONE, -1);
    }

    public static void main(String[] args) {
        newObject();
        tape();
        lives();
        faults();
        lost();
        doing();
        dropping();
        forging();
        asking();
        slips();
        undoing();
        judging();
        years();
        coming();
        rows();
        packing();
        orders();
        halves();
        passed();
        linings();
        turns();
        fires();
        trays();
        images();
        counts();
        System.out.println(checked + " answers by hand, " + wrong + " not as due");
        if (wrong != 0) System.exit(1);
    }
}
