import java.util.ArrayList;
import java.util.List;
import java.util.Random;

/** Texts of lives, drawn by a seed: whole ones, and ones that are hurt somewhere. */
final class Texts {
    private final Random random;
    private StringBuilder out;
    private int depth;

    Texts(long seed) { random = new Random(seed); }

    private int draw(int n) { return random.nextInt(n); }

    private void put(String token) {
        char last = out.length() == 0 ? ' ' : out.charAt(out.length() - 1);
        boolean glue = Character.isLetter(last) && Character.isLetter(token.charAt(0))
                || Character.isDigit(last) && Character.isDigit(token.charAt(0));
        if (glue || draw(3) == 0) out.append(draw(9) == 0 ? "\n" : draw(9) == 0 ? "  " : " ");
        out.append(token);
    }

    private void number(int low, int high) { put(String.valueOf(low + draw(high - low + 1))); }

    /** At most so many DOINGS. */
    String life(int doings) {
        while (true) {
            out = new StringBuilder();
            whole(doings);
            if (out.length() <= 900) return out.toString();
        }
    }

    private void whole(int doings) {
        put("life");
        put("room");
        number(0, draw(4) == 0 ? 40 : 3 * doings);
        put(";");
        int n = 0, doors = 0, lines = doings + draw(8);
        for (int i = 0; i < lines; i++) {
            int kind = draw(16);
            if (lines - i <= doings - n || kind < 5 && n < doings) {
                doing(n);
                n++;
            } else if (kind < 8 && doors < 8) {
                put("door");
                put("" + (draw(3) == 0 ? draw(10) : draw(2) == 0 ? 3 : 6));
                doors++;
            } else if (kind < 12 && n > 1) {
                int a = draw(n), b = draw(n - 1);
                put("clash");
                put("" + a);
                put("" + (b >= a ? b + 1 : b));
            } else if (kind == 12) {
                put("slip");
                number(0, 9);
            } else if (kind == 13) {
                put("keeps");
                put(":");
                depth = 0;
                truth(false);
            } else {
                put("passes");
                put(":");
                depth = 0;
                truth(true);
            }
            put(";");
        }
    }

    private void doing(int n) {
        put("doing");
        put("size");
        number(1, draw(3) == 0 ? 9 : 4);
        int flags = draw(6);
        for (int i = 0; i < flags; i++) {
            switch (draw(6)) {
                case 0: put("edge"); put("" + (draw(3) == 0 ? draw(10) : draw(2) == 0 ? 3 : 6)); break;
                case 1: put("asked"); number(0, 10); break;
                case 2: put("burns"); number(0, 10); break;
                case 3: put("worth"); number(0, 9); break;
                default: if (n > 0) { put("needs"); number(0, n - 1); }
            }
        }
    }

    private void truth(boolean slip) {
        both(slip);
        while (draw(4) == 0) { put("or"); both(slip); }
    }

    private void both(boolean slip) {
        unit(slip);
        while (draw(4) == 0) { put("and"); unit(slip); }
    }

    private void unit(boolean slip) {
        int kind = depth < 6 ? draw(6) : 5;
        if (kind == 0) {
            put("not");
            depth++;
            unit(slip);
            depth--;
        } else if (kind == 1) {
            put("[");
            depth++;
            truth(slip);
            depth--;
            put("]");
        } else {
            sum(slip);
            put("" + "=<>".charAt(draw(3)));
            sum(slip);
        }
    }

    private void sum(boolean slip) {
        term(slip);
        while (draw(3) == 0) { put(draw(2) == 0 ? "+" : "-"); term(slip); }
    }

    private void term(boolean slip) {
        atom(slip);
        while (draw(4) == 0) { put("*"); atom(slip); }
    }

    private void atom(boolean slip) {
        int kind = draw(9);
        if (kind == 0 && depth < 6) {
            put("(");
            depth++;
            sum(slip);
            depth--;
            put(")");
        } else if (kind < 3) {
            number(0, draw(4) == 0 ? 999 : 9);
        } else {
            String[] names = {"doing", "size", "edge", "held", "left", "slip"};
            put(slip && draw(3) == 0 ? "slip" : names[draw(slip ? 6 : 5)]);
        }
    }

    /** A text with up to three hurts: a TOKEN left out, doubled, put in; a sign changed; its end cut off. */
    String hurt(String text) {
        String hurt = text;
        int times = 1 + draw(3);
        for (int i = 0; i < times; i++) hurt = once(hurt);
        return hurt.length() > 900 ? hurt.substring(0, 900) : hurt;
    }

    private String once(String text) {
        List<int[]> tokens = tokens(text);
        if (tokens.isEmpty()) return text;
        int[] t = tokens.get(draw(tokens.size()));
        String head = text.substring(0, t[0]), token = text.substring(t[0], t[1]), tail = text.substring(t[1]);
        String[] some = {"life", "room", "doing", "size", "edge", "asked", "burns", "worth", "needs", "door", "clash", "slip",
            "keeps", "passes", "or", "and", "not", "held", "left", ";", ":", "+", "-", "*", "(", ")", "[", "]", "=", "<", ">",
            "0", "7", "10", "999", "1000", "00009", "lifes", "lif", "passesx", "A", "!", "\t", "\r", "_", "" + (char) 233, "" + (char) 0,
            "((((((", "[[[", "not not not", "size 1"};
        String other = some[draw(some.length)];
        switch (draw(9)) {
            case 7: case 8: return token.matches("[0-9]+") ? head + draw(1 << draw(8)) + tail : once(text);
            case 0: return head + tail;
            case 1: return head + token + " " + token + tail;
            case 2: return head + other + " " + token + tail;
            case 3: return head + other + tail;
            case 4: return text.substring(0, draw(text.length() + 1));
            case 5: {
                int at = draw(text.length());
                return text.substring(0, at) + (char) draw(256) + text.substring(at + 1);
            }
            default: return head + " " + other + " " + tail;
        }
    }

    private static List<int[]> tokens(String text) {
        List<int[]> tokens = new ArrayList<>();
        java.util.regex.Matcher m = java.util.regex.Pattern.compile("[a-z]+|[0-9]+|[^ \\n]").matcher(text);
        while (m.find()) tokens.add(new int[] {m.start(), m.end()});
        return tokens;
    }
}
