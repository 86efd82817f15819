import java.math.BigInteger;
import java.util.ArrayDeque;
import java.util.ArrayList;
import java.util.Arrays;
import java.util.HashMap;
import java.util.HashSet;
import java.util.List;
import java.util.Map;
import java.util.Set;
import java.util.function.Predicate;

/** A second telling of the document, as plain as can be: it tries everything out. */
final class Model {
    static final int OPEN = 0, SHOWN = 1, BARE = 2, FORGED = 3;

    interface Value { int of(Scene s); }
    interface Truth { boolean of(Scene s); }
    record Scene(int doing, int size, int edge, int held, int left, int slip) { }

    static final class Doing {
        int size, edge = 0, asked = 5, burns = 0, worth = 1;
        Set<Integer> needs = new HashSet<>();
        Set<Integer> clash = new HashSet<>();
    }

    static final class Life {
        int room = 0, slip = 0, lines = 0;
        List<Doing> doings = new ArrayList<>();
        List<Integer> doors = new ArrayList<>();
        Truth keeps = null, passes = null;
    }

    static final class Fault extends RuntimeException {
        final int kind, place;
        Fault(int kind, int place) { super("fault", null, false, false); this.kind = kind; this.place = place; }
    }

    // ---- the text

    static final class Parser {
        final String text;
        int at = 0;
        String token;
        int place;
        final Life life = new Life();

        Parser(String text) { this.text = text; }

        static Life parse(String text) {
            Parser p = new Parser(text);
            p.take();
            p.eat("life");
            p.eat("room");
            p.life.room = p.n(0, 40);
            p.eat(";");
            p.life.lines = 1;
            while (!p.token.equals("")) {
                p.line();
                p.eat(";");
                p.life.lines++;
            }
            return p.life;
        }

        void take() {
            while (at < text.length() && (text.charAt(at) == ' ' || text.charAt(at) == '\n')) at++;
            place = at;
            if (at == text.length()) { token = ""; return; }
            String rest = text.substring(at);
            String word = rest.replaceFirst("(?s)^([a-z]*).*$", "$1");
            String digits = rest.replaceFirst("(?s)^([0-9]*).*$", "$1");
            if (!word.isEmpty()) token = word;
            else if (!digits.isEmpty()) {
                if (digits.length() > 3) throw new Fault(1, place);
                token = digits;
            } else {
                token = rest.substring(0, 1);
                if (!Arrays.asList(";", ":", "+", "-", "*", "(", ")", "[", "]", "=", "<", ">").contains(token)) throw new Fault(1, place);
            }
            at += token.length();
        }

        Fault wrong(int kind) { return new Fault(kind, place); }

        void eat(String what) {
            if (!token.equals(what)) throw wrong(2);
            take();
        }

        int n(int low, int high) {
            if (token.isEmpty() || !Character.isDigit(token.charAt(0))) throw wrong(2);
            int v = Integer.parseInt(token);
            if (v < low || v > high) throw wrong(3);
            take();
            return v;
        }

        void line() {
            if (token.equals("doing")) {
                if (life.doings.size() == 8) throw wrong(4);
                take();
                eat("size");
                Doing d = new Doing();
                d.size = n(1, 9);
                while (!token.equals(";")) {
                    String flag = token;
                    if (!Arrays.asList("edge", "asked", "burns", "worth", "needs").contains(flag)) throw wrong(2);
                    take();
                    if (flag.equals("edge")) d.edge = n(0, 9);
                    if (flag.equals("asked")) d.asked = n(0, 10);
                    if (flag.equals("burns")) d.burns = n(0, 10);
                    if (flag.equals("worth")) d.worth = n(0, 9);
                    if (flag.equals("needs")) d.needs.add(n(0, life.doings.size() - 1));
                }
                life.doings.add(d);
            } else if (token.equals("door")) {
                if (life.doors.size() == 8) throw wrong(4);
                take();
                life.doors.add(n(0, 9));
            } else if (token.equals("clash")) {
                take();
                int a = n(0, life.doings.size() - 1);
                if (token.matches("[0-9]+") && Integer.parseInt(token) == a) throw wrong(3);
                int b = n(0, life.doings.size() - 1);
                life.doings.get(a).clash.add(b);
                life.doings.get(b).clash.add(a);
            } else if (token.equals("slip")) {
                take();
                life.slip = n(0, 9);
            } else if (token.equals("keeps")) {
                take();
                eat(":");
                life.keeps = truth(false, 0);
            } else if (token.equals("passes")) {
                take();
                eat(":");
                life.passes = truth(true, 0);
            } else throw wrong(2);
        }

        Truth truth(boolean slip, int depth) {
            List<Truth> parts = new ArrayList<>();
            parts.add(both(slip, depth));
            while (token.equals("or")) { take(); parts.add(both(slip, depth)); }
            return s -> parts.stream().anyMatch(p -> p.of(s));
        }

        Truth both(boolean slip, int depth) {
            List<Truth> parts = new ArrayList<>();
            parts.add(unit(slip, depth));
            while (token.equals("and")) { take(); parts.add(unit(slip, depth)); }
            return s -> parts.stream().allMatch(p -> p.of(s));
        }

        Truth unit(boolean slip, int depth) {
            if (token.equals("not")) {
                if (depth == 6) throw wrong(4);
                take();
                Truth t = unit(slip, depth + 1);
                return s -> !t.of(s);
            }
            if (token.equals("[")) {
                if (depth == 6) throw wrong(4);
                take();
                Truth t = truth(slip, depth + 1);
                eat("]");
                return t;
            }
            Value a = sum(slip, depth);
            String sign = token;
            if (!Arrays.asList("=", "<", ">").contains(sign)) throw wrong(2);
            take();
            Value b = sum(slip, depth);
            if (sign.equals("=")) return s -> a.of(s) == b.of(s);
            if (sign.equals("<")) return s -> a.of(s) < b.of(s);
            return s -> a.of(s) > b.of(s);
        }

        static int bound(long v) { return (int) (v > 1000000 ? 1000000 : v < -1000000 ? -1000000 : v); }

        Value sum(boolean slip, int depth) {
            Value sum = term(slip, depth);
            while (token.equals("+") || token.equals("-")) {
                boolean plus = token.equals("+");
                take();
                Value a = sum, b = term(slip, depth);
                sum = s -> bound(plus ? (long) a.of(s) + b.of(s) : (long) a.of(s) - b.of(s));
            }
            return sum;
        }

        Value term(boolean slip, int depth) {
            Value term = atom(slip, depth);
            while (token.equals("*")) {
                take();
                Value a = term, b = atom(slip, depth);
                term = s -> bound((long) a.of(s) * b.of(s));
            }
            return term;
        }

        Value atom(boolean slip, int depth) {
            if (token.equals("(")) {
                if (depth == 6) throw wrong(4);
                take();
                Value v = sum(slip, depth + 1);
                eat(")");
                return v;
            }
            if (token.matches("[0-9]+")) {
                int v = Integer.parseInt(token);
                take();
                return s -> v;
            }
            Value v;
            switch (token) {
                case "doing": v = Scene::doing; break;
                case "size": v = Scene::size; break;
                case "edge": v = Scene::edge; break;
                case "held": v = Scene::held; break;
                case "left": v = Scene::left; break;
                case "slip": if (!slip) throw wrong(2); v = Scene::slip; break;
                default: throw wrong(2);
            }
            take();
            return v;
        }
    }

    // ---- how all is

    static final class State {
        final int[] mood;
        int slip;
        State(int n, int slip) { mood = new int[n]; this.slip = slip; }
        State(State o) { mood = o.mood.clone(); slip = o.slip; }
        boolean done(int d) { return mood[d] == SHOWN || mood[d] == BARE; }
        boolean stub(int d) { return mood[d] == SHOWN || mood[d] == FORGED; }
        String key() { return Arrays.toString(mood); }
    }

    Life life = new Life();
    State now = new State(0, 0);
    final ArrayDeque<State> past = new ArrayDeque<>();
    String tape = "";
    int fault = 0, faultPlace = -1;
    final long[][] trays = new long[4][];
    final int[] sorts = new int[4];
    final Life[] imageLife = new Life[2];
    final State[] imageState = new State[2];

    int n() { return life.doings.size(); }
    Doing of(int d) { return life.doings.get(d); }
    boolean has(int d) { return d >= 0 && d < n(); }

    int left(State s) {
        int left = life.room;
        for (int d = 0; d < n(); d++) if (s.stub(d)) left -= of(d).size;
        return left;
    }

    int held(State s) {
        int held = 0;
        for (int d = 0; d < n(); d++) if (s.stub(d)) held++;
        return held;
    }

    Scene scene(State s, int d, int slip) { return new Scene(d, of(d).size, of(d).edge, held(s), left(s), slip); }

    boolean passes(State s, int d, int slip) { return life.passes != null && life.passes.of(scene(s, d, slip)); }

    static int bits(int n, Predicate<Integer> in) {
        int bits = 0;
        for (int d = 0; d < n; d++) if (in.test(d)) bits += 1 << d;
        return bits;
    }

    int done(State s) { return bits(n(), s::done); }
    int lining(State s) { return bits(n(), s::stub); }

    Set<Integer> back(State s, int d) {
        Set<Integer> back = new HashSet<>();
        back.add(d);
        boolean more = true;
        while (more) {
            more = false;
            for (int e = 0; e < n(); e++) {
                if (s.done(e) && !back.contains(e)) {
                    for (int f : of(e).needs) if (back.contains(f)) more = true;
                    if (more) { back.add(e); break; }
                }
            }
        }
        return back;
    }

    /** Changes the state; answers why not, or 0. */
    int deed(State s, long v) {
        if (v < 0 || v > 49) return 1;
        int d = (int) (v % 10), kind = (int) (v / 10);
        if (kind == 4) { s.slip = d; return 0; }
        if (!has(d)) return 1;
        if (kind == 0) {
            if (s.done(d)) return 2;
            for (int e : of(d).needs) if (!s.done(e)) return 3;
            s.mood[d] = OPEN;
            boolean keeps = left(s) >= of(d).size && (life.keeps == null || life.keeps.of(scene(s, d, 0)));
            s.mood[d] = keeps ? SHOWN : BARE;
        } else if (kind == 1) {
            if (!s.stub(d)) return 2;
            s.mood[d] = s.mood[d] == SHOWN ? BARE : OPEN;
        } else if (kind == 2) {
            if (s.mood[d] != OPEN) return 2;
            if (left(s) < of(d).size) return 4;
            s.mood[d] = FORGED;
        } else {
            if (s.mood[d] == BARE || s.mood[d] == FORGED && !passes(s, d, s.slip)) for (int e : back(s, d)) s.mood[e] = OPEN;
        }
        return 0;
    }

    void keep(State before) {
        past.addLast(before);
        if (past.size() > 10) past.removeFirst();
    }

    // ---- the calls

    int feed(int... ints) {
        if (tape.length() + 20 > 900) return -5;
        StringBuilder b = new StringBuilder(tape);
        for (int v : ints) for (int k = 3; k >= 0; k--) b.append((char) (v >> 8 * k & 255));
        tape = b.toString();
        return tape.length();
    }

    int life(int n) {
        if (n < 0 || n > tape.length()) return -3;
        String text = tape.substring(0, n);
        tape = "";
        try {
            Life read = Parser.parse(text);
            life = read;
            now = new State(n(), life.slip);
            past.clear();
            fault = 0;
            faultPlace = -1;
            return life.lines;
        } catch (Fault f) {
            fault = f.kind;
            faultPlace = f.place;
            return -30 - f.kind;
        }
    }

    int fault(int what) { return what == 0 ? fault : what == 1 ? faultPlace : -1; }

    int doing(int d, int what) {
        if (!has(d) || what < 0 || what > 7) return -2;
        Doing x = of(d);
        int[] all = {now.mood[d], x.size, x.edge, x.asked, x.burns, x.worth, bits(n(), x.needs::contains), bits(n(), x.clash::contains)};
        return all[what];
    }

    int door(int k) { return k < 0 || k >= life.doors.size() ? -2 : life.doors.get(k); }

    int putBack(int d) {
        if (!has(d)) return -2;
        if (!now.done(d)) return -5;
        return bits(n(), back(now, d)::contains);
    }

    int open() { return bits(n(), d -> deed(new State(now), d) == 0); }

    int act(int kind, int d) {
        if (d < 0 || d > 9) return -11;
        State s = new State(now);
        int why = deed(s, kind * 10L + d);
        if (why != 0) return -10 - why;
        keep(now);
        now = s;
        return 0;
    }

    int does(int d) { int w = act(0, d); return w < 0 ? w : now.mood[d]; }
    int drop(int d) { int w = act(1, d); return w < 0 ? w : held(now); }
    int forge(int d) { int w = act(2, d); return w < 0 ? w : left(now); }
    int ask(int d) {
        State before = now;
        int w = act(3, d);
        return w < 0 ? w : bits(n(), e -> before.mood[e] != OPEN && now.mood[e] == OPEN);
    }
    int slip(int n) { int was = now.slip; int w = act(4, n); return w < 0 ? w : was; }

    int undo(int n) {
        if (n < 1 || n > 10 || n > past.size()) return -3;
        for (int i = 0; i < n; i++) now = past.removeLast();
        return past.size();
    }

    int noTray(int t) { return t < 0 || t > 3 ? -2 : trays[t] == null ? -6 : 0; }

    int judge(int t, int what) {
        if (t < 0 || t > 3 || what < 0 || what > 3) return -2;
        if (trays[t] == null) return -6;
        State s = new State(now);
        int place = -1, why = 0;
        for (int i = 0; i < trays[t].length && why == 0; i++) {
            why = deed(s, trays[t][i]);
            if (why != 0) place = i;
        }
        return what == 0 ? place : what == 1 ? why : what == 2 ? done(s) : lining(s);
    }

    int perform(int t) {
        if (noTray(t) != 0) return noTray(t);
        State s = new State(now);
        int many = 0;
        for (long v : trays[t]) {
            if (deed(s, v) != 0) break;
            many++;
        }
        if (many > 0) { keep(now); now = s; }
        return many;
    }

    int year(int seed, int times) {
        if (times < 1 || times > 40) return -3;
        int[] x = {seed};
        State s = new State(now);
        int could = 0;
        for (int i = 0; i < times; i++) {
            int k = draw(x) % 8, d = draw(x) % 8;
            int v = k <= 3 ? d : k == 4 ? 10 + d : k == 5 ? 20 + d : 30 + d;
            if (deed(s, v) == 0) could++;
        }
        if (could > 0) { keep(now); now = s; }
        return could;
    }

    static int draw(int[] x) { x[0] = 1103515245 * x[0] + 12345; return x[0] >>> 16; }

    boolean badSet(int set) { return set < 0 || set >= 1 << n(); }

    List<Integer> moves() {
        List<Integer> moves = new ArrayList<>();
        for (int d = 0; d < n(); d++) moves.add(d);
        for (int d = 0; d < n(); d++) moves.add(10 + d);
        return moves;
    }

    int shown(State s) { return bits(n(), d -> s.mood[d] == SHOWN); }

    static boolean before(List<Integer> a, List<Integer> b) {
        for (int i = 0; i < a.size(); i++) if (!a.get(i).equals(b.get(i))) return a.get(i) < b.get(i);
        return false;
    }

    /** Level by level; of each state of a level the least row that comes there. */
    List<Integer> coming(Predicate<State> goal) {
        Set<String> seen = new HashSet<>();
        Map<String, State> states = new HashMap<>();
        Map<String, List<Integer>> rows = new HashMap<>();
        states.put(now.key(), new State(now));
        rows.put(now.key(), new ArrayList<>());
        while (!rows.isEmpty()) {
            List<Integer> best = null;
            for (String k : rows.keySet()) if (goal.test(states.get(k)) && (best == null || before(rows.get(k), best))) best = rows.get(k);
            if (best != null) return best;
            seen.addAll(rows.keySet());
            Map<String, List<Integer>> next = new HashMap<>();
            for (String k : rows.keySet()) {
                for (int m : moves()) {
                    State s = new State(states.get(k));
                    if (deed(s, m) != 0 || seen.contains(s.key())) continue;
                    List<Integer> row = new ArrayList<>(rows.get(k));
                    row.add(m);
                    if (!next.containsKey(s.key()) || before(row, next.get(s.key()))) next.put(s.key(), row);
                    states.put(s.key(), s);
                }
            }
            rows = next;
        }
        return null;
    }

    List<Integer> toDone(int set) { return coming(s -> (set & ~done(s)) == 0); }
    List<Integer> toShown(int set) { return coming(s -> (set & ~shown(s)) == 0); }
    static int long1(List<Integer> row) { return row == null ? -1 : row.size(); }
    static int at(List<Integer> row, int i) { return row == null || i >= row.size() ? -1 : row.get(i); }

    int soonest(int set) { return badSet(set) ? -3 : long1(toDone(set)); }
    int way(int set, int i) { return badSet(set) || i < 0 ? -3 : at(toDone(set), i); }
    int shown(int set) { return badSet(set) ? -3 : long1(toShown(set)); }
    int shownBy(int set, int i) { return badSet(set) || i < 0 ? -3 : at(toShown(set), i); }

    long rows(int set, int n) {
        if (badSet(set) || n < 0 || n > 8) return -3;
        return rowsFrom(now, set, n, new HashMap<>());
    }

    private long rowsFrom(State s, int set, int n, Map<String, Long> known) {
        if (n == 0) return (set & ~shown(s)) == 0 ? 1 : 0;
        String key = n + s.key();
        if (known.containsKey(key)) return known.get(key);
        long sum = 0;
        for (int m : moves()) {
            State t = new State(s);
            if (deed(t, m) == 0) sum += rowsFrom(t, set, n - 1, known);
        }
        known.put(key, sum);
        return sum;
    }

    List<State> reachable() {
        Map<String, State> seen = new HashMap<>();
        ArrayDeque<State> todo = new ArrayDeque<>();
        seen.put(now.key(), now);
        todo.push(now);
        while (!todo.isEmpty()) {
            State s = todo.pop();
            for (int m : moves()) {
                State t = new State(s);
                if (deed(t, m) == 0 && seen.putIfAbsent(t.key(), t) == null) todo.push(t);
            }
        }
        return new ArrayList<>(seen.values());
    }

    int most() {
        int most = 0;
        for (State s : reachable()) most = Math.max(most, Integer.bitCount(shown(s)));
        return most;
    }

    int stands() { return reachable().size(); }

    int gain(int d) {
        if (!has(d)) return -2;
        if (!now.done(d)) return -5;
        int worth = 0;
        for (int e : back(now, d)) worth += of(e).worth;
        return of(d).asked * worth;
    }

    int pack(int what) {
        if (what < 0 || what > 1) return -2;
        int best = -1, bestSet = 0;
        for (int set = 0; set < 1 << n(); set++) {
            int size = 0, gains = 0;
            boolean all = true;
            for (int d = 0; d < n(); d++) {
                if ((set >> d & 1) == 0) continue;
                all = all && now.done(d);
                size += of(d).size;
                gains += now.done(d) ? gain(d) : 0;
            }
            if (all && size <= life.room && gains > best) { best = gains; bestSet = set; }
        }
        return what == 0 ? best : bestSet;
    }

    int badOrders(int t) {
        if (noTray(t) != 0) return noTray(t);
        if (trays[t].length > 12) return -4;
        for (long v : trays[t]) {
            if (v < 0 || v > 99) return -3;
            int a = (int) v / 10, b = (int) v % 10;
            if (!has(a) || !has(b) || !now.done(a) || !now.done(b) || a == b) return -3;
        }
        return 0;
    }

    /** All orders, the first first. */
    List<List<Integer>> allOrders(int t) {
        List<List<Integer>> all = new ArrayList<>();
        permute(t, new ArrayList<>(), all);
        return all;
    }

    private void permute(int t, List<Integer> so, List<List<Integer>> all) {
        if (so.size() == Integer.bitCount(done(now))) {
            for (long v : trays[t]) if (so.indexOf((int) v / 10) > so.indexOf((int) v % 10)) return;
            all.add(new ArrayList<>(so));
            return;
        }
        for (int d = 0; d < n(); d++) {
            if (!now.done(d) || so.contains(d) || !so.containsAll(of(d).needs)) continue;
            so.add(d);
            permute(t, so, all);
            so.remove(so.size() - 1);
        }
    }

    int orders(int t) { return badOrders(t) != 0 ? badOrders(t) : allOrders(t).size(); }

    int order(int t, int i) {
        if (badOrders(t) != 0) return badOrders(t);
        if (i < 0) return -3;
        List<List<Integer>> all = allOrders(t);
        return all.isEmpty() ? -1 : at(all.get(0), i);
    }

    int ahead(int t, int d, int e) {
        if (noTray(t) == -2 || !has(d) || !has(e) || d == e) return -2;
        if (badOrders(t) != 0) return badOrders(t);
        if (!now.done(d) || !now.done(e)) return -5;
        int many = 0;
        for (List<Integer> o : allOrders(t)) if (o.indexOf(d) < o.indexOf(e)) many++;
        return many;
    }

    /** DOING by DOING the DOOR, 99 for none. */
    int[] joining() {
        int[] so = new int[n()];
        int[][] best = {null};
        joinFrom(0, so, best);
        return best[0];
    }

    static int joins(int[] so) { int j = 0; for (int k : so) if (k != 99) j++; return j; }

    private void joinFrom(int d, int[] so, int[][] best) {
        if (d == n()) {
            if (best[0] == null || joins(so) > joins(best[0])) best[0] = so.clone();
            return;
        }
        for (int k = 0; k < life.doors.size() && now.mood[d] == SHOWN; k++) {
            boolean free = life.doors.get(k) + of(d).edge == 9;
            for (int e = 0; e < d; e++) free = free && so[e] != k;
            if (free) { so[d] = k; joinFrom(d + 1, so, best); }
        }
        so[d] = 99;
        joinFrom(d + 1, so, best);
    }

    int join(int what) {
        if (what == 0) return joins(joining());
        if (what < 10 || !has(what - 10)) return -2;
        int k = joining()[what - 10];
        return k == 99 ? -1 : k;
    }

    int over() {
        int[] so = joining();
        return bits(life.doors.size(), k -> Arrays.stream(so).noneMatch(j -> j == k));
    }

    int badPassed(int t) {
        if (noTray(t) != 0) return noTray(t);
        if (trays[t].length < 1 || trays[t].length > 12) return -4;
        for (long v : trays[t]) if (v < 0 || v > 19 || !has((int) v / 2) || now.mood[(int) v / 2] != FORGED) return -3;
        return 0;
    }

    int slips(int t) {
        if (badPassed(t) != 0) return badPassed(t);
        return bits(10, s -> Arrays.stream(trays[t]).allMatch(v -> passes(now, (int) v / 2, s) == (v % 2 == 1)));
    }

    int attempt(int t) {
        int slips = slips(t);
        if (slips < 0) return slips;
        if (slips == 0) return -1;
        int best = -1, most = -1;
        for (int d = 0; d < n(); d++) {
            if (now.mood[d] != FORGED) continue;
            int yes = 0, no = 0;
            for (int s = 0; s < 10; s++) if ((slips >> s & 1) == 1) { if (passes(now, d, s)) yes++; else no++; }
            if (Math.min(yes, no) > most) { most = Math.min(yes, no); best = d; }
        }
        return best;
    }

    int[] liningsOf() {
        int[][] best = {null};
        paint(0, new int[n()], best);
        return best[0];
    }

    static int highest(int[] so) { int h = 0; for (int c : so) h = Math.max(h, c + 1); return h; }

    private void paint(int d, int[] so, int[][] best) {
        if (d == n()) {
            if (best[0] == null || highest(so) < highest(best[0])) best[0] = so.clone();
            return;
        }
        if (!now.done(d)) { so[d] = -1; paint(d + 1, so, best); return; }
        // More than one beyond those used so far is never the first of like ones.
        int used = 0;
        for (int e = 0; e < d; e++) used = Math.max(used, so[e] + 1);
        for (int c = 0; c <= used; c++) {
            boolean fits = true;
            for (int e = 0; e < d; e++) fits = fits && !(so[e] == c && of(d).clash.contains(e));
            if (fits) { so[d] = c; paint(d + 1, so, best); }
        }
    }

    int linings(int what) {
        if (what == 0) return highest(liningsOf());
        if (what < 10 || !has(what - 10)) return -2;
        return liningsOf()[what - 10];
    }

    int clique() {
        int best = 0;
        for (int set = 1; set < 1 << n(); set++) {
            boolean all = true;
            for (int d = 0; d < n(); d++) {
                if ((set >> d & 1) == 0) continue;
                all = all && now.done(d);
                for (int e = 0; e < n(); e++) if (e != d && (set >> e & 1) == 1 && !of(d).clash.contains(e)) all = false;
            }
            if (all && Integer.bitCount(set) > Integer.bitCount(best)) best = set;
        }
        return best;
    }

    boolean isSo(State s, int set) { return (set & ~shown(s)) == 0; }

    boolean forces(State s, int set, int turns) {
        if (turns == 0) return false;
        List<Integer> moves = moves();
        moves.add(99);
        for (int m : moves) if (forcesBy(s, set, turns, m)) return true;
        return false;
    }

    boolean forcesBy(State s, int set, int turns, int move) {
        State t = new State(s);
        if (move != 99 && deed(t, move) != 0) return false;
        if (isSo(t, set)) return true;
        for (int d = -1; d < n(); d++) {
            State u = new State(t);
            if (d >= 0) deed(u, 30 + d);
            if (!forces(u, set, turns - 1)) return false;
        }
        return true;
    }

    int forces(int set) {
        if (badSet(set)) return -3;
        if (isSo(now, set)) return 0;
        for (int turns = 1; turns <= 3; turns++) if (forces(now, set, turns)) return turns;
        return -1;
    }

    int best(int set) {
        int turns = forces(set);
        if (turns == -3) return -3;
        if (turns <= 0) return -1;
        List<Integer> moves = moves();
        moves.add(99);
        for (int m : moves) if (forcesBy(now, set, turns, m)) return m;
        return -1;
    }

    /** How likely each is done then, in parts of 10 to the 16th, by all that can come to pass. */
    BigInteger[] fire(State from) {
        BigInteger[] sum = new BigInteger[n()];
        Arrays.fill(sum, BigInteger.ZERO);
        burn(from, new State(from), 0, BigInteger.ONE, sum);
        return sum;
    }

    private void burn(State from, State s, int d, BigInteger weight, BigInteger[] sum) {
        if (weight.signum() == 0) return;
        if (d == n()) { seek(s, 0, new HashSet<>(), weight.multiply(BigInteger.TEN.pow(8 - n())), sum); return; }
        int burns = from.mood[d] == SHOWN ? of(d).burns : 0;
        State t = new State(s);
        if (from.mood[d] == SHOWN) t.mood[d] = BARE;
        burn(from, t, d + 1, weight.multiply(BigInteger.valueOf(burns)), sum);
        burn(from, s, d + 1, weight.multiply(BigInteger.valueOf(10 - burns)), sum);
    }

    private void seek(State s, int d, Set<Integer> asked, BigInteger weight, BigInteger[] sum) {
        if (weight.signum() == 0) return;
        if (d == n()) {
            Set<Integer> gone = new HashSet<>();
            for (int a : asked) gone.addAll(back(s, a));
            BigInteger w = weight.multiply(BigInteger.TEN.pow(8 - n()));
            for (int e = 0; e < n(); e++) if (s.done(e) && !gone.contains(e)) sum[e] = sum[e].add(w);
            return;
        }
        int likely = s.mood[d] == BARE ? of(d).asked : 0;
        Set<Integer> more = new HashSet<>(asked);
        more.add(d);
        seek(s, d + 1, more, weight.multiply(BigInteger.valueOf(likely)), sum);
        seek(s, d + 1, asked, weight.multiply(BigInteger.valueOf(10 - likely)), sum);
    }

    static long lowest(BigInteger above, int what) {
        BigInteger below = BigInteger.TEN.pow(16);
        BigInteger g = above.gcd(below);
        return (what == 0 ? above : below).divide(g).longValueExact();
    }

    static BigInteger total(BigInteger[] parts) {
        BigInteger sum = BigInteger.ZERO;
        for (BigInteger p : parts) sum = sum.add(p);
        return sum;
    }

    long chance(int d, int what) {
        if (!has(d) || what < 0 || what > 1) return -2;
        if (!now.done(d)) return -5;
        return lowest(fire(now)[d], what);
    }

    long mean(int what) { return what < 0 || what > 1 ? -2 : lowest(total(fire(now)), what); }

    int wanted() {
        int best = -1;
        BigInteger most = null;
        for (int d = 0; d < n(); d++) {
            if (now.mood[d] != BARE) continue;
            State s = new State(now);
            s.mood[d] = SHOWN;
            BigInteger then = total(fire(s));
            if (most == null || then.compareTo(most) > 0) { most = then; best = d; }
        }
        return best;
    }

    int numbers(int t, int sort, int n) {
        if (t < 0 || t > 3 || sort < 0 || sort > 3) return -2;
        if (n < 0 || n > 40) return -3;
        trays[t] = new long[n];
        sorts[t] = sort;
        return 0;
    }

    long write(int t, int i, long v) {
        if (noTray(t) != 0) return noTray(t);
        if (i < 0 || i >= trays[t].length) return -7;
        int drop = 64 - (8 << sorts[t]);
        trays[t][i] = v << drop >> drop;
        return trays[t][i];
    }

    int lists(int t, int set) {
        if (noTray(t) != 0) return noTray(t);
        if (badSet(set)) return -3;
        List<Integer> row = toShown(set);
        if (row == null) return -5;
        int many = 0;
        while (many < row.size() && many < trays[t].length) { trays[t][many] = row.get(many); many++; }
        return many;
    }

    int image(int i) {
        if (i < 0 || i > 1) return -2;
        imageLife[i] = life;
        imageState[i] = new State(now);
        return 0;
    }

    int restore(int i) {
        if (i < 0 || i > 1) return -2;
        if (imageLife[i] == null) return -5;
        life = imageLife[i];
        now = new State(imageState[i]);
        past.clear();
        return 0;
    }

    int count(int what) {
        switch (what) {
            case 0: return n();
            case 1: return life.doors.size();
            case 2: return life.room;
            case 3: return left(now);
            case 4: return done(now);
            case 5: return lining(now);
            case 6: return bits(n(), d -> now.mood[d] == FORGED);
            case 7: return now.slip;
            case 8: return past.size();
            case 9: return tape.length();
            case 10: return life.lines;
            default: return -1;
        }
    }
}
