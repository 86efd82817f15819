import java.util.ArrayList;
import java.util.List;
import java.util.TreeMap;
import java.util.TreeSet;

/** What the tests of bounds share: each answer belongs to a sentence of a promise, which is told ahead of it. */
final class Bounds {
    interface Call { long on(StubKeep x); }

    interface Maker { StubKeep make(); }

    static final int LOW = Integer.MIN_VALUE;
    static final int HIGH = Integer.MAX_VALUE;

    private static int promise = 0;
    private static String sentence = "";
    private static int checked = 0;
    private static int wrong = 0;
    private static final TreeMap<Integer, TreeSet<String>> TOLD = new TreeMap<>();

    private Bounds() { }

    /** What follows belongs to this sentence, in the document's own words. */
    static void sentence(int itsPromise, String words) {
        promise = itsPromise;
        sentence = words;
        TOLD.computeIfAbsent(itsPromise, k -> new TreeSet<>()).add(words);
    }

    static void due(String call, long got, long want) {
        checked++;
        if (got != want) fail(call + " answered " + got + ", due is " + want);
    }

    static void fail(String what) {
        wrong++;
        System.out.println("promise " + promise + ", \"" + sentence + "\": " + what);
    }

    /** Fails, too, if one of the promises from one to another has no sentence. */
    static void finish(int from, int to) {
        int sentences = 0;
        for (int p = from; p <= to; p++) {
            sentence = "every promise";
            promise = p;
            if (!TOLD.containsKey(p)) fail("no sentence is tested");
        }
        for (TreeSet<String> words : TOLD.values()) sentences += words.size();
        System.out.println(sentences + " sentences of promises " + from + " to " + to + ", " + checked + " answers, " + wrong + " not as due");
        if (wrong != 0) System.exit(1);
    }

    // ---- texts

    static int feed(StubKeep x, String text) {
        int bytes = x.count(9);
        for (int from = 0; from < text.length(); from += 20) {
            int[] v = ModelTest.ints(text, from);
            bytes = x.feed(v[0], v[1], v[2], v[3], v[4]);
        }
        return bytes;
    }

    static int tell(StubKeep x, String text) {
        feed(x, text);
        return x.life(text.length());
    }

    /** An object with THE LIFE told; a text that can't be read is an answer not as due. */
    static StubKeep of(String text) {
        StubKeep x = new StubKeep();
        int lines = tell(x, text);
        if (lines < 0) fail("not read: " + text + " (" + lines + " at " + x.fault(1) + ")");
        return x;
    }

    static void reads(String text, int lines) {
        StubKeep x = new StubKeep();
        due("life of " + text, tell(x, text), lines);
        due("fault(0) of " + text, x.fault(0), 0);
        due("fault(1) of " + text, x.fault(1), -1);
    }

    static void faulty(String text, int kind, int place) {
        StubKeep x = new StubKeep();
        due("life of " + text, tell(x, text), -30 - kind);
        due("fault(0) of " + text, x.fault(0), kind);
        due("fault(1) of " + text, x.fault(1), place);
        due("count(10) of " + text, x.count(10), 0);
    }

    static String doings(int n) { return "doing size 1;".repeat(n); }

    static void tray(StubKeep x, int tray, long... numbers) {
        x.numbers(tray, 3, numbers.length);
        for (int i = 0; i < numbers.length; i++) x.write(tray, i, numbers[i]);
    }

    static long[] times(int n, long v) {
        long[] all = new long[n];
        java.util.Arrays.fill(all, v);
        return all;
    }

    // ---- all that can be seen

    /** Two made alike, one of them called: it answers as due, and behind it nothing tells the two apart. */
    static void unchanged(String call, Maker maker, Call made, long want) {
        StubKeep x = maker.make();
        StubKeep twin = maker.make();
        due(call, made.on(x), want);
        List<String> seen = seen(x);
        List<String> due = seen(twin);
        checked++;
        for (int i = 0; i < due.size(); i++) {
            if (!seen.get(i).equals(due.get(i))) {
                fail(call + " changed something: " + seen.get(i) + " was " + due.get(i));
                return;
            }
        }
    }

    /** All that the face tells of an object, which is used up by it. */
    static List<String> seen(StubKeep x) {
        List<String> all = new ArrayList<>();
        look(x, all, "now");
        for (int i = 0; i < 2; i++) put(all, "fault(" + i + ")", x.fault(i));
        put(all, "stands()", x.stands());
        put(all, "rows(0, 4)", x.rows(0, 4));
        for (int t = 0; t < 4; t++) for (int what = 0; what < 4; what++) put(all, "judge(" + t + ", " + what + ")", x.judge(t, what));
        for (int t = 0; t < 4; t++) lookAtTray(x, all, t);
        for (int n = x.count(8); n > 0; n--) {
            put(all, "undo(1)", x.undo(1));
            for (int what : new int[] {4, 5, 7}) put(all, "undone, count(" + what + ")", x.count(what));
        }
        int bytes = x.count(9);
        for (int i = 0; i < 2; i++) {
            put(all, "restore(" + i + ")", x.restore(i));
            look(x, all, "image " + i);
        }
        put(all, "life(" + bytes + ")", x.life(bytes));
        look(x, all, "the tape read");
        return all;
    }

    private static void look(StubKeep x, List<String> all, String when) {
        for (int what = 0; what <= 10; what++) put(all, when + ", count(" + what + ")", x.count(what));
        for (int d = 0; d < x.count(0); d++) for (int what = 0; what < 8; what++) put(all, when + ", doing(" + d + ", " + what + ")", x.doing(d, what));
        for (int k = 0; k < x.count(1); k++) put(all, when + ", door(" + k + ")", x.door(k));
    }

    /** What writing tells of a TRAY's sort, and of how many numbers it has. */
    private static void lookAtTray(StubKeep x, List<String> all, int t) {
        long v = 0x8182838485868788L;
        for (int i : new int[] {0, 1, 2, 3, 4, 12, 39}) put(all, "write(" + t + ", " + i + ", v)", x.write(t, i, v));
    }

    private static void put(List<String> all, String call, long answer) { all.add(call + " = " + answer); }
}
