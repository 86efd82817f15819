/** The bounds of a text, of its laws, and of promises 1 to 6. */
public final class TextBoundsTest {
    private static final String HEAD = "life room 9;";

    // ---- what a text may hold

    private static void room() {
        Bounds.sentence(3, "life: the ROOM, 0 to 40");
        for (int room : new int[] {0, 1, 39, 40}) Bounds.due("count(2)", Bounds.of("life room " + room + ";").count(2), room);
        for (int room : new int[] {41, 42, 400, 999}) Bounds.faulty("life room " + room + ";", 3, 10);
        Bounds.faulty("life room -1;", 2, 10);
        Bounds.faulty("life room ;", 2, 10);
    }

    private static void size() {
        Bounds.sentence(5, "doing: the SIZE of its stub, 1 to 9");
        for (int size = 1; size <= 9; size++) Bounds.due("doing(0, 1)", Bounds.of(HEAD + "doing size " + size + ";").doing(0, 1), size);
        for (int size : new int[] {0, 10, 11, 999}) Bounds.faulty(HEAD + "doing size " + size + ";", 3, 23);
        Bounds.faulty(HEAD + "doing size ;", 2, 23);
        Bounds.faulty(HEAD + "doing;", 2, 17);
        Bounds.faulty(HEAD + "doing edge 1;", 2, 18);
        Bounds.faulty(HEAD + "doing size 1 size 2;", 2, 25);
    }

    private static void flag(String words, String flag, int what, int high, int unless) {
        Bounds.sentence(5, words);
        String line = HEAD + "doing size 1 " + flag + " ";
        Bounds.due("doing(0, " + what + ") untold", Bounds.of(HEAD + "doing size 1;").doing(0, what), unless);
        for (int v = 0; v <= high; v++) Bounds.due("doing(0, " + what + ")", Bounds.of(line + v + ";").doing(0, what), v);
        for (int v : new int[] {high + 1, high + 2, 100, 999}) Bounds.faulty(line + v + ";", 3, line.length());
        Bounds.faulty(line + ";", 2, line.length());
        Bounds.faulty(line + "- 1;", 2, line.length());
        Bounds.sentence(5, words + " .. later ones strike");
        Bounds.due("the later is the greatest", Bounds.of(line + "0 " + flag + " 3 " + flag + " " + high + ";").doing(0, what), high);
        Bounds.due("the later is the least", Bounds.of(line + high + " " + flag + " 0;").doing(0, what), 0);
        Bounds.faulty(line + (high + 1) + " " + flag + " 0;", 3, line.length());
        // the next DOING has what it has untold
        Bounds.due("doing(1, " + what + ")", Bounds.of(line + high + ";doing size 1;").doing(1, what), unless);
    }

    private static void flags() {
        flag("edge 0 to 9 (0)", "edge", 2, 9, 0);
        flag("asked: how likely it is asked for, in 10, 0 to 10 (5)", "asked", 3, 10, 5);
        flag("burns: how likely its stub burns, in 10, 0 to 10 (0)", "burns", 4, 10, 0);
        flag("worth 0 to 9 (1)", "worth", 5, 9, 1);
    }

    private static void needs() {
        Bounds.sentence(5, "needs: a DOING told ahead (as many as one likes)");
        Bounds.faulty(HEAD + "doing size 1 needs 0;", 3, 31);
        String text = HEAD + "doing size 1;";
        for (int d = 1; d < 8; d++) {
            String line = text + "doing size 1 needs ";
            Bounds.due("doing(" + d + ", 6)", Bounds.of(line + (d - 1) + ";").doing(d, 6), 1 << d - 1);
            Bounds.due("doing(" + d + ", 6)", Bounds.of(line + "0;").doing(d, 6), 1);
            Bounds.faulty(line + d + ";", 3, line.length());
            Bounds.faulty(line + (d + 1) + ";", 3, line.length());
            text += "doing size 1;";
        }
        StringBuilder all = new StringBuilder(HEAD + Bounds.doings(7) + "doing size 1");
        for (int d = 0; d < 7; d++) all.append(" needs ").append(d);
        Bounds.due("all seven", Bounds.of(all + ";").doing(7, 6), 127);
        Bounds.due("one and the same, 60 times", Bounds.of(HEAD + "doing size 1;doing size 1" + " needs 0".repeat(60) + ";").doing(1, 6), 1);
        Bounds.due("none", Bounds.of(HEAD + Bounds.doings(2)).doing(1, 6), 0);
    }

    private static void eightDoings() {
        Bounds.sentence(3, "numbered from 0 on, 8 at most .. 4 the first TOKEN of a 9th doing");
        for (int n = 0; n <= 8; n++) {
            StubKeep x = Bounds.of(HEAD + Bounds.doings(n));
            Bounds.due("count(0)", x.count(0), n);
            Bounds.due("count(10)", x.count(10), 1 + n);
        }
        String eight = HEAD + Bounds.doings(8);
        Bounds.faulty(eight + "doing size 1;", 4, eight.length());
        Bounds.faulty(eight + "  doing", 4, eight.length() + 2);
        Bounds.faulty(eight + "doing size 99;", 4, eight.length());
        Bounds.faulty(eight + "door 1;doing!", 4, eight.length() + 7);
        Bounds.reads(eight + "keeps:doing=1;", 10);
    }

    private static void doors() {
        Bounds.sentence(6, "door: an edge, 0 to 9");
        for (int edge = 0; edge <= 9; edge++) Bounds.due("door(0)", Bounds.of(HEAD + "door " + edge + ";").door(0), edge);
        for (int edge : new int[] {10, 11, 100, 999}) Bounds.faulty(HEAD + "door " + edge + ";", 3, 17);
        Bounds.faulty(HEAD + "door ;", 2, 17);
        Bounds.faulty(HEAD + "door 1 2;", 2, 19);
        Bounds.sentence(6, "door .. numbered from 0 on, 8 at most .. 4 the first TOKEN of a 9th .. door");
        for (int n = 0; n <= 8; n++) {
            StubKeep x = Bounds.of(HEAD + "door 7;".repeat(n));
            Bounds.due("count(1)", x.count(1), n);
            for (int k = 0; k < n; k++) Bounds.due("door(" + k + ")", x.door(k), 7);
            Bounds.due("door(" + n + ")", x.door(n), -2);
        }
        String eight = HEAD + "door 1;".repeat(8);
        Bounds.faulty(eight + "door 1;", 4, eight.length());
        Bounds.faulty(eight + "door", 4, eight.length());
        Bounds.faulty(eight + "door 1000;", 4, eight.length());
        Bounds.reads(eight + Bounds.doings(8), 17);
    }

    private static void clashes() {
        Bounds.sentence(5, "clash: two DOINGS told ahead, not one (once is enough)");
        String two = HEAD + Bounds.doings(2);
        int at = two.length() + 6;
        for (String pair : new String[] {"0 1", "1 0"}) {
            StubKeep x = Bounds.of(two + "clash " + pair + ";");
            Bounds.due("doing(0, 7)", x.doing(0, 7), 2);
            Bounds.due("doing(1, 7)", x.doing(1, 7), 1);
        }
        StubKeep twice = Bounds.of(two + "clash 0 1;clash 1 0;clash 0 1;");
        Bounds.due("doing(0, 7)", twice.doing(0, 7), 2);
        Bounds.due("doing(1, 7)", twice.doing(1, 7), 1);
        Bounds.due("count(10)", twice.count(10), 6);
        Bounds.due("doing(0, 7): none", Bounds.of(two).doing(0, 7), 0);
        Bounds.faulty(two + "clash 0 2;", 3, at + 2);
        Bounds.faulty(two + "clash 2 0;", 3, at);
        Bounds.faulty(two + "clash 2 2;", 3, at);
        Bounds.faulty(two + "clash 0 0;", 3, at + 2);
        Bounds.faulty(two + "clash 1 1;", 3, at + 2);
        Bounds.faulty(two + "clash 1 01;", 3, at + 2);
        Bounds.faulty(two + "clash 1;", 2, at + 1);
        Bounds.faulty(two + "clash 0 1 0;", 2, at + 4);
        Bounds.faulty(HEAD + "clash 0 1;", 3, 18);
        Bounds.faulty(HEAD + "doing size 1;clash 0 1;doing size 1;", 3, 33);
        StringBuilder all = new StringBuilder(HEAD + Bounds.doings(8));
        for (int d = 0; d < 8; d++) for (int e = d + 1; e < 8; e++) all.append("clash ").append(d).append(' ').append(e).append(';');
        StubKeep full = Bounds.of(all.toString());
        for (int d = 0; d < 8; d++) Bounds.due("doing(" + d + ", 7)", full.doing(d, 7), 255 & ~(1 << d));
    }

    private static void slip() {
        Bounds.sentence(3, "slip: 0 to 9; later ones of slip .. strike");
        for (int slip = 0; slip <= 9; slip++) Bounds.due("count(7)", Bounds.of(HEAD + "slip " + slip + ";").count(7), slip);
        for (int slip : new int[] {10, 11, 999}) Bounds.faulty(HEAD + "slip " + slip + ";", 3, 17);
        Bounds.faulty(HEAD + "slip ;", 2, 17);
        Bounds.due("untold", Bounds.of(HEAD).count(7), 0);
        Bounds.due("the later", Bounds.of(HEAD + "slip 9;slip 0;").count(7), 0);
        Bounds.due("the latest", Bounds.of(HEAD + "slip 0;slip 3;slip 9;").count(7), 9);
        StubKeep x = Bounds.of(HEAD + "slip 9;");
        Bounds.tell(x, HEAD);
        Bounds.due("untold in the next life", x.count(7), 0);
        Bounds.sentence(3, "later ones of .. keeps, passes strike");
        Bounds.due("does(0)", Bounds.of(HEAD + "doing size 1;keeps:1=1;keeps:1=2;").does(0), 2);
        Bounds.due("does(0)", Bounds.of(HEAD + "doing size 1;keeps:1=2;keeps:1=1;").does(0), 1);
        StubKeep passes = Bounds.of(HEAD + "doing size 1;passes:1=2;passes:1=1;");
        passes.forge(0);
        Bounds.due("ask(0)", passes.ask(0), 0);
        StubKeep never = Bounds.of(HEAD + "doing size 1;passes:1=1;passes:1=2;");
        never.forge(0);
        Bounds.due("ask(0)", never.ask(0), 1);
    }

    // ---- tokens

    private static void digits() {
        Bounds.sentence(4, "N (1 to 3 digits) .. 1 no TOKEN begins so (4 digits and more: at their first)");
        for (String n : new String[] {"7", "07", "007"}) Bounds.due("count(2)", Bounds.of("life room " + n + ";").count(2), 7);
        for (String n : new String[] {"0", "00", "000"}) Bounds.due("count(2)", Bounds.of("life room " + n + ";").count(2), 0);
        for (String n : new String[] {"0007", "1234", "0000", "00000000000000000007", "99999999999999999999"}) Bounds.faulty("life room " + n + ";", 1, 10);
        Bounds.reads(HEAD + "keeps:999=000;", 2);
        Bounds.faulty(HEAD + "keeps:999=1000;", 1, 22);
        // where no N can stand, one that is too long still is no TOKEN
        Bounds.faulty("1234", 1, 0);
        Bounds.faulty("123", 2, 0);
        Bounds.faulty("life 1234", 1, 5);
        Bounds.faulty("life 123", 2, 5);
        Bounds.reads("life room9;doing size1edge2asked3;", 2);
        Bounds.faulty("life room9a;", 2, 10);
    }

    private static boolean isSign(int c) { return ";:+-*()[]=<>".indexOf(c) >= 0; }

    private static void bytes() {
        Bounds.sentence(4, "between them blanks (10, 32): words (small letters), N .., the signs ; : + - * ( ) [ ] = < >");
        for (int c = 0; c < 256; c++) {
            boolean blank = c == 10 || c == 32;
            boolean begins = c >= 'a' && c <= 'z' || c >= '0' && c <= '9' || isSign(c);
            if (blank) {
                Bounds.reads("life" + (char) c + "room 9;" + (char) c, 1);
                continue;
            }
            Bounds.faulty(HEAD + (char) c, begins ? 2 : 1, 12);
            boolean word = c >= 'a' && c <= 'z';
            Bounds.faulty("life" + (char) c + "room 9;", begins ? 2 : 1, word ? 0 : 4);
        }
        Bounds.reads("\n \nlife\n\nroom 9\n;\n \n", 1);
    }

    private static void words() {
        Bounds.sentence(4, "TOKENS, as long as they go on");
        String[] lines = {"doing size 1;", "door 1;", "clash 0 1;", "slip 1;", "keeps:1=1;", "passes:1=1;"};
        String head = HEAD + Bounds.doings(2);
        for (String line : lines) {
            String word = line.replaceFirst("[^a-z].*", "");
            Bounds.reads(head + line, 4);
            Bounds.faulty(head + word + "s" + line.substring(word.length()), 2, head.length());
            Bounds.faulty(head + word.substring(0, word.length() - 1) + line.substring(word.length()), 2, head.length());
            Bounds.faulty(head + "x" + line, 2, head.length());
        }
        Bounds.faulty(HEAD + "doingsize 1;", 2, 12);
        Bounds.faulty(HEAD + "slipslip 1;", 2, 12);
        Bounds.faulty(HEAD + "x".repeat(200), 2, 12);
        Bounds.faulty(HEAD + "keeps:1=1 orr 1=1;", 2, 22);
        Bounds.faulty(HEAD + "keeps:1=1 an 1=1;", 2, 22);
        Bounds.faulty(HEAD + "keeps:nott 1=1;", 2, 18);
        for (String atom : new String[] {"doing", "size", "edge", "held", "left"}) {
            Bounds.reads(HEAD + "keeps:" + atom + "=1;", 2);
            Bounds.reads(HEAD + "passes:1<" + atom + ";", 2);
            Bounds.faulty(HEAD + "keeps:" + atom + "a=1;", 2, 18);
        }
        for (String none : new String[] {"room", "asked", "burns", "worth", "needs", "door", "life", "not", "or", "and", "["}) {
            Bounds.faulty(HEAD + "keeps:1=" + none + ";", 2, 20);
        }
    }

    // ---- faults

    private static void theEnd() {
        Bounds.sentence(4, "2 it can't stand there (the end: the text's length");
        String[] tokens = {"life", "room", "9", ";", "doing", "size", "1", "edge", "2", "asked", "3", "burns", "4", "worth", "5", ";",
            "doing", "size", "1", "needs", "0", ";", "door", "1", ";", "clash", "0", "1", ";", "slip", "1", ";",
            "keeps", ":", "not", "[", "(", "doing", "+", "1", ")", "*", "2", "=", "size", "or", "1", "<", "left", "and", "1", ">", "0", "]", ";",
            "passes", ":", "slip", "-", "held", "=", "edge", ";"};
        String text = "";
        int lines = 0;
        Bounds.faulty("", 2, 0);
        Bounds.faulty(" ", 2, 1);
        for (String token : tokens) {
            text += token;
            if (token.equals(";")) {
                lines++;
                Bounds.reads(text, lines);
                Bounds.reads(text + " \n", lines);
            } else {
                Bounds.faulty(text, 2, text.length());
                Bounds.faulty(text + " \n ", 2, text.length() + 3);
            }
            text += " ";
        }
        Bounds.faulty(" ".repeat(900), 2, 900);
        String most = HEAD + "door 1";
        Bounds.faulty(most + " ".repeat(900 - most.length()), 2, 900);
    }

    private static void lifeFirst() {
        Bounds.sentence(4, "life must be told first, and once");
        Bounds.faulty("door 1;life room 9;", 2, 0);
        Bounds.faulty(";life room 9;", 2, 0);
        Bounds.faulty("room 9;", 2, 0);
        Bounds.faulty(HEAD + HEAD, 2, 12);
        Bounds.faulty(HEAD + "door 1;" + HEAD, 2, 19);
        Bounds.faulty(HEAD + ";", 2, 12);
        Bounds.reads(HEAD, 1);
    }

    private static void slipInKeeps() {
        Bounds.sentence(4, "2 it can't stand there (.. slip in keeps)");
        Bounds.faulty(HEAD + "keeps:slip=1;", 2, 18);
        Bounds.faulty(HEAD + "keeps:1=slip;", 2, 20);
        Bounds.faulty(HEAD + "passes:slip=1;keeps:slip=1;", 2, 32);
        Bounds.reads(HEAD + "passes:slip=slip;", 2);
        Bounds.reads(HEAD + "keeps:1=1;passes:slip=1;", 3);
        Bounds.reads(HEAD + "keeps:1=1;slip 1;", 3);
    }

    private static void firstAlong() {
        Bounds.sentence(4, "FAULTS, the first along the text, of one TOKEN the least kind");
        Bounds.faulty(HEAD + "door 10;!", 3, 17);
        Bounds.faulty(HEAD + "door 1!0;", 1, 18);
        Bounds.faulty(HEAD + "door door 10;", 2, 17);
        Bounds.faulty(HEAD + "clash 1000 0;", 1, 18);
        String eight = HEAD + "door 1;".repeat(8);
        Bounds.faulty(eight + "door 1;!", 4, eight.length());
        Bounds.faulty(eight + "slip 10;door 1;", 3, eight.length() + 5);
        // what can't stand there is no ninth, no seventh
        Bounds.faulty(eight + "slip door;", 2, eight.length() + 5);
        Bounds.faulty(HEAD + Bounds.doings(8) + "door doing;", 2, 12 + 8 * 13 + 5);
        Bounds.faulty(HEAD + "keeps:[[[[[[1(", 2, 25);
        Bounds.faulty(HEAD + "keeps:[[[[[[1[", 2, 25);
        Bounds.faulty(HEAD + "keeps:[[[[[[1=[", 2, 26);
        Bounds.faulty(HEAD + "keeps:[[[[[[1=not", 2, 26);
        Bounds.faulty(HEAD + "keeps:((((((not", 2, 24);
        Bounds.faulty(HEAD + "keeps:((((((1234", 1, 24);
    }

    // ---- laws

    /** A law with these within one another, the outermost first; fills place with where the last one begins. */
    private static String nested(String kinds, int[] place) {
        StringBuilder text = new StringBuilder(HEAD + "passes:");
        StringBuilder ends = new StringBuilder();
        boolean compared = false;
        for (int i = 0; i < kinds.length(); i++) {
            char kind = kinds.charAt(i);
            place[0] = text.length();
            text.append(kind == 'n' ? "not " : String.valueOf(kind));
            if (kind == '[') ends.insert(0, ']');
            // only the outermost ( is followed by what it is compared with
            if (kind == '(') ends.insert(0, compared ? ")" : ")=1");
            compared = compared || kind == '(';
        }
        return text + (compared ? "1" : "1=1") + ends + ";";
    }

    private static void nests(int levels, boolean may) {
        for (int outer = 0; outer <= levels; outer++) {
            for (int mix = 0; mix < 1 << outer; mix++) {
                StringBuilder kinds = new StringBuilder();
                for (int i = 0; i < outer; i++) kinds.append((mix >> i & 1) == 1 ? 'n' : '[');
                kinds.append("(".repeat(levels - outer));
                int[] place = {0};
                String text = nested(kinds.toString(), place);
                if (may) Bounds.reads(text, 2);
                else Bounds.faulty(text, 4, place[0]);
            }
        }
    }

    private static void sixDeep() {
        Bounds.sentence(4, "At most six of not [ ( within one another .. 4 .. a seventh of not [ (");
        nests(5, true);
        nests(6, true);
        nests(7, false);
        Bounds.reads(HEAD + "keeps:[[[[[[1=1]]]]]] and [[[[[[1=1]]]]]] or not not not not not not 1=1;", 2);
        Bounds.reads(HEAD + "keeps:((((((1))))))=((((((1))))))+((((((1))))))*((((((1))))));", 2);
        Bounds.reads(HEAD + "keeps:[[[[[[1=1]and(1)=(1)]]]]];", 2);
        Bounds.faulty(HEAD + "keeps:[[[[[[1=1]and(1)=((1))]]]]];", 4, 36);
        Bounds.faulty(HEAD + "keeps:[[[[[[1=1]and[1=1 or not 1=1]]]]]];", 4, 39);
        Bounds.faulty(HEAD + "keeps:not not not not not not 1=1 or not not not not not not (1)=1;", 4, 73);
    }

    /** 1 if the law holds for a new DOING of SIZE 1 and edge 0, in a ROOM of 9. */
    private static void holds(String law, boolean so) {
        Bounds.due("does(0) with " + law, Bounds.of(HEAD + "doing size 1;keeps:" + law + ";").does(0), so ? 1 : 2);
    }

    private static void kept() {
        Bounds.sentence(9, "each + - * is kept from -1,000,000 to 1,000,000");
        String million = "(500+500)*(500+500)";
        holds(million + "=999*999+999+999+1", true);
        holds(million + "-1=999*999+999+999", true);
        holds(million + "=999*999+999+999", false);
        holds(million + "+1=" + million, true);
        holds(million + "+999=" + million, true);
        holds("(500+501)*(500+500)=" + million, true);
        holds("(500+499)*(500+500)<" + million, true);
        holds("999*999*999=" + million, true);
        // each by itself: what went beyond is lost
        holds(million + "+5-5=" + million, false);
        holds(million + "+5-5=" + million + "-5", true);
        holds("0-" + million + "=0-999*999-999-999-1", true);
        holds("0-" + million + "-1=0-" + million, true);
        holds("0-" + million + "+1>0-" + million, true);
        holds("0-" + million + "-5+5=0-" + million + "+5", true);
        holds("(0-999)*999*999=0-" + million, true);
        holds("(0-999*999*999)*(0-999*999*999)=" + million, true);
        holds("(0-999*999*999)*999*999*999=0-" + million, true);
    }

    private static void signs() {
        Bounds.sentence(9, "TRUTH: BOTH { or BOTH }; BOTH: UNIT { and UNIT } .. SUM, one of = < >, SUM");
        holds("1=1", true);
        holds("1=2", false);
        holds("2=1", false);
        holds("1<2", true);
        holds("1<1", false);
        holds("2<1", false);
        holds("2>1", true);
        holds("1>1", false);
        holds("1>2", false);
        holds("1=1 or 1=1 and 1=2", true);
        holds("1=2 and 1=1 or 1=1", true);
        holds("[1=1 or 1=1]and 1=2", false);
        holds("not 1=2 and 1=2", false);
        holds("not[1=2 and 1=2]", true);
        holds("not not 1=1", true);
        holds("not 1=1 or 1=1", true);
        Bounds.sentence(9, "SUM: TERM { + TERM | - TERM }; TERM: ATOM { * ATOM }");
        holds("9-3-2=4", true);
        holds("9-(3-2)=8", true);
        holds("2+3*4=14", true);
        holds("2*3+4=10", true);
        holds("2*(3+4)=14", true);
        holds("1-2<0", true);
        holds("2-2*3=0-4", true);
    }

    private static void atoms() {
        Bounds.sentence(9, "doing, size, edge: its number, SIZE, edge, held: how many stubs are in the lining (false ones, too), left: the ROOM less SIZES of all these, all ahead");
        String two = "life room 9;doing size 2 edge 3;doing size 4 edge 5;doing size 1;keeps:doing=0 or ";
        StubKeep first = Bounds.of("life room 9;doing size 2 edge 3;keeps:doing=0 and size=2 and edge=3 and held=0 and left=9;");
        Bounds.due("does(0): the first", first.does(0), 1);
        StubKeep second = Bounds.of(two + "doing=1 and size=4 and edge=5 and held=1 and left=7;");
        second.does(0);
        Bounds.due("does(1): the second", second.does(1), 1);
        StubKeep forged = Bounds.of(two + "doing=1 and held=2 and left=6;");
        forged.does(0);
        forged.forge(2);
        Bounds.due("does(1): a false one is held, too", forged.does(1), 1);
        StubKeep bare = Bounds.of(two + "doing=1 and held=0 and left=9;");
        bare.does(0);
        bare.drop(0);
        Bounds.due("does(1): a BARE one isn't held", bare.does(1), 1);
        StubKeep full = Bounds.of("life room 8;" + Bounds.doings(8) + "keeps:held=doing and left+doing=8;");
        for (int d = 0; d < 8; d++) Bounds.due("does(" + d + ")", full.does(d), 1);
    }

    // ---- promises 1 to 6

    private static void newObject() {
        Bounds.sentence(1, "No DOINGS, no DOORS .. without one: .. ROOM 0, SLIP 0");
        StubKeep x = new StubKeep();
        for (int what = 0; what <= 10; what++) Bounds.due("count(" + what + ")", x.count(what), 0);
        for (int d = 0; d < 9; d++) Bounds.due("doing(" + d + ", 0)", x.doing(d, 0), -2);
        for (int k = 0; k < 9; k++) Bounds.due("door(" + k + ")", x.door(k), -2);
        Bounds.due("fault(0)", x.fault(0), 0);
        Bounds.due("fault(1)", x.fault(1), -1);
        Bounds.due("open()", x.open(), 0);
        Bounds.due("over()", x.over(), 0);
        Bounds.sentence(1, "TRAYS 0 to 3 are MISSING at first");
        for (int t = 0; t < 4; t++) Bounds.due("perform(" + t + ")", x.perform(t), -6);
        Bounds.sentence(1, "IMAGES .. (none at first)");
        for (int i = 0; i < 2; i++) Bounds.due("restore(" + i + ")", x.restore(i), -5);
    }

    private static void tape() {
        Bounds.sentence(2, "Twenty bytes come behind those on THE TAPE, the highest of each int first: how many it has");
        StubKeep x = new StubKeep();
        Bounds.due("feed", x.feed(0x6C696665, 0x20726F6F, 0x6D20373B, 0x646F6F72, 0x20313B64), 20);
        Bounds.due("feed", x.feed(0x6F6F7220, 0x323B646F, 0x6F722033, 0x3B646F6F, 0x7220343B), 40);
        Bounds.due("life(40): life room 7;door 1;door 2;door 3;door 4;", x.life(40), 5);
        Bounds.due("count(2)", x.count(2), 7);
        for (int k = 0; k < 4; k++) Bounds.due("door(" + k + ")", x.door(k), k + 1);
        for (int place = 0; place < 20; place++) {
            int[] v = {0x20202020, 0x20202020, 0x20202020, 0x20202020, 0x20202020};
            v[place / 4] ^= (0x20 ^ 0xFF) << 8 * (3 - place % 4);
            x.feed(v[0], v[1], v[2], v[3], v[4]);
            Bounds.due("life(20) with 255 at " + place, x.life(20), -31);
            Bounds.due("fault(1)", x.fault(1), place);
        }
        Bounds.sentence(2, "-5: it would have more than 900");
        StubKeep y = new StubKeep();
        String text = HEAD + "door 1;";
        Bounds.feed(y, text + " ".repeat(860 - text.length()));
        Bounds.due("count(9)", y.count(9), 860);
        Bounds.due("feed: the 44th", y.feed(0x20202020, 0x20202020, 0x20202020, 0x20202020, 0x20202020), 880);
        Bounds.due("feed: the 45th", y.feed(0x20202020, 0x20202020, 0x20202020, 0x20202020, 0x20202020), 900);
        for (int i = 0; i < 3; i++) Bounds.due("feed: one more", y.feed(0, 0, 0, 0, 0), -5);
        Bounds.due("count(9)", y.count(9), 900);
        Bounds.due("life(900)", y.life(900), 2);
        Bounds.due("feed: there are places again", y.feed(0, 0, 0, 0, 0), 20);
    }

    private static void longest() {
        Bounds.sentence(3, "THE LIFE is a TEXT of at most 900 bytes");
        String head = HEAD + "doing size 1;keeps:";
        for (int length : new int[] {898, 899, 900}) {
            String law = "1";
            while (head.length() + law.length() + 2 < length - 4) law += "+1";
            int sum = (law.length() + 1) / 2;
            String text = head + law + "=" + sum + ";";
            text += " ".repeat(length - text.length());
            Bounds.due("the last byte counts", Bounds.of(text).does(0), 1);
        }
        String flags = HEAD + "doing size 1";
        while (flags.length() + 10 < 900) flags += " edge 1";
        Bounds.due("doing(0, 2)", Bounds.of(flags + " edge 9;").doing(0, 2), 9);
        String full = HEAD + "slip 1;".repeat(126) + " slip;";
        Bounds.due("a text's length", full.length(), 900);
        Bounds.faulty(full, 2, 899);
        StubKeep many = Bounds.of(HEAD + "slip 1;".repeat(126));
        Bounds.due("count(10): LINES", many.count(10), 127);
    }

    private static void firstBytes() {
        Bounds.sentence(3, "The first n bytes of THE TAPE (which is empty then) are THE LIFE");
        String text = HEAD + "door 1;door 2;";
        int[] ends = {12, 19, 26};
        for (int i = 0; i < 3; i++) {
            StubKeep x = new StubKeep();
            Bounds.feed(x, text);
            Bounds.due("life(" + ends[i] + ")", x.life(ends[i]), 1 + i);
            Bounds.due("count(1)", x.count(1), i);
            Bounds.due("count(9)", x.count(9), 0);
            Bounds.due("feed", x.feed(0, 0, 0, 0, 0), 20);
        }
        StubKeep all = new StubKeep();
        Bounds.feed(all, text);
        Bounds.due("life(40): all there is", all.life(40), 3);
        StubKeep faulty = new StubKeep();
        Bounds.feed(faulty, text);
        Bounds.due("life(13): it is empty with a FAULT, too", faulty.life(13), -32);
        Bounds.due("count(9)", faulty.count(9), 0);
        StubKeep none = new StubKeep();
        Bounds.feed(none, text);
        Bounds.due("life(0)", none.life(0), -32);
        Bounds.due("fault(1)", none.fault(1), 0);
        Bounds.due("count(9)", none.count(9), 0);
        Bounds.due("life(0) of an empty one", new StubKeep().life(0), -32);
        Bounds.sentence(3, "-3: n is below 0 or above what there is (THE TAPE stays)");
        for (int n : new int[] {Bounds.LOW, -1, 41, 42, 900, 901, Bounds.HIGH}) {
            StubKeep x = new StubKeep();
            Bounds.feed(x, text);
            Bounds.due("life(" + n + ")", x.life(n), -3);
            Bounds.due("count(9)", x.count(9), 40);
            Bounds.due("fault(0)", x.fault(0), 0);
            Bounds.due("life(26)", x.life(26), 3);
        }
        Bounds.due("life(1) of an empty one", new StubKeep().life(1), -3);
        StubKeep full = new StubKeep();
        Bounds.feed(full, " ".repeat(900));
        Bounds.due("life(901)", full.life(901), -3);
        Bounds.due("life(900)", full.life(900), -32);
    }

    private static void begins() {
        Bounds.sentence(3, "all are OPEN, nothing can be UNDONE: how many LINES (life, too");
        StubKeep x = Bounds.of("life room 9;doing size 1 edge 9;doing size 2;door 1;slip 3;keeps:doing=0;passes:1=1;");
        x.does(0);
        x.does(1);
        x.slip(8);
        Bounds.due("life", Bounds.tell(x, "life room 4;doing size 3;doing size 4;"), 3);
        int[] want = {2, 0, 4, 4, 0, 0, 0, 0, 0, 0, 3};
        for (int what = 0; what <= 10; what++) Bounds.due("count(" + what + ")", x.count(what), want[what]);
        Bounds.due("undo(1)", x.undo(1), -3);
        Bounds.due("doing(0, 2): as untold", x.doing(0, 2), 0);
        x.forge(0);
        Bounds.due("ask(0): the law passes is gone", x.ask(0), 1);
        Bounds.due("does(1): the law keeps is gone", x.does(1), 1);
        Bounds.due("life: the least", Bounds.tell(x, "life room 0;"), 1);
        Bounds.due("count(0)", x.count(0), 0);
        Bounds.sentence(3, "all stays with a FAULT");
        for (String bad : new String[] {"", "life room 41;", "life room 1;doing size 1;slip 4;keeps:1=2;passes:1=1;door 10;", "!", "life room 3;doing size 9;"+ "doing"}) {
            StubKeep y = Bounds.of("life room 9;doing size 1 edge 9;doing size 2;door 1;slip 3;keeps:doing=0;passes:doing=0;");
            y.does(0);
            y.forge(1);
            y.slip(8);
            Bounds.due("life refused", Bounds.tell(y, bad) < -30 ? 1 : 0, 1);
            int[] stays = {2, 1, 9, 6, 1, 3, 2, 8, 3, 0, 7};
            for (int what = 0; what <= 10; what++) Bounds.due("count(" + what + ") behind " + bad, y.count(what), stays[what]);
            Bounds.due("doing(0, 2)", y.doing(0, 2), 9);
            Bounds.due("door(0)", y.door(0), 1);
            Bounds.due("ask(1): passes stays", y.ask(1), 2);
            Bounds.due("does(1): keeps stays", y.does(1), 2);
        }
    }

    private static void fault() {
        Bounds.sentence(4, "Of the latest life() that was read, what 0: its FAULT (0), 1: its place (NONE)");
        StubKeep x = new StubKeep();
        Bounds.due("fault(0) ahead of all", x.fault(0), 0);
        Bounds.due("fault(1) ahead of all", x.fault(1), -1);
        Bounds.tell(x, HEAD + "door 10;");
        Bounds.due("fault(0)", x.fault(0), 3);
        Bounds.due("fault(1)", x.fault(1), 17);
        Bounds.due("life(-1): not read", x.life(-1), -3);
        Bounds.due("life(1): not read", x.life(1), -3);
        Bounds.due("fault(0) stays", x.fault(0), 3);
        Bounds.due("fault(1) stays", x.fault(1), 17);
        x.image(0);
        x.restore(0);
        Bounds.due("fault(1) stays", x.fault(1), 17);
        Bounds.tell(x, "!");
        Bounds.due("fault(0)", x.fault(0), 1);
        Bounds.due("fault(1)", x.fault(1), 0);
        Bounds.tell(x, HEAD);
        Bounds.due("fault(0)", x.fault(0), 0);
        Bounds.due("fault(1)", x.fault(1), -1);
        Bounds.sentence(4, "NONE for others");
        Bounds.tell(x, HEAD + "door 10;");
        for (int what : new int[] {Bounds.LOW, -2, -1, 2, 3, Bounds.HIGH}) Bounds.due("fault(" + what + ")", x.fault(what), -1);
    }

    private static void doing() {
        Bounds.sentence(5, "Of a DOING, what 0: 0 OPEN, 1 SHOWN, 2 BARE, 3 FORGED");
        StubKeep x = Bounds.of("life room 9;" + Bounds.doings(4));
        x.does(1);
        x.does(2);
        x.drop(2);
        x.forge(3);
        for (int d = 0; d < 4; d++) Bounds.due("doing(" + d + ", 0)", x.doing(d, 0), d);
        Bounds.sentence(5, "-2");
        for (int d : new int[] {Bounds.LOW, -1, 4, 5, 7, 8, Bounds.HIGH}) Bounds.due("doing(" + d + ", 0)", x.doing(d, 0), -2);
        for (int what : new int[] {Bounds.LOW, -1, 8, 9, Bounds.HIGH}) Bounds.due("doing(0, " + what + ")", x.doing(0, what), -2);
        StubKeep full = Bounds.of("life room 9;" + Bounds.doings(8));
        for (int what = 0; what < 8; what++) Bounds.due("doing(8, " + what + ")", full.doing(8, what), -2);
        Bounds.due("doing(7, 1)", full.doing(7, 1), 1);
    }

    private static void door() {
        Bounds.sentence(6, "The edge of a DOOR. -2");
        StubKeep x = Bounds.of(HEAD + "door 9;door 0;door 5;");
        int[] edges = {9, 0, 5};
        for (int k = 0; k < 3; k++) Bounds.due("door(" + k + ")", x.door(k), edges[k]);
        for (int k : new int[] {Bounds.LOW, -1, 3, 4, 7, 8, Bounds.HIGH}) Bounds.due("door(" + k + ")", x.door(k), -2);
    }

    public static void main(String[] args) {
        room();
        size();
        flags();
        needs();
        eightDoings();
        doors();
        clashes();
        slip();
        digits();
        bytes();
        words();
        theEnd();
        lifeFirst();
        slipInKeeps();
        firstAlong();
        sixDeep();
        kept();
        signs();
        atoms();
        newObject();
        tape();
        longest();
        firstBytes();
        begins();
        fault();
        doing();
        door();
        Bounds.finish(1, 6);
    }
}
