import java.lang.reflect.Method;
import java.lang.reflect.Modifier;
import java.nio.charset.StandardCharsets;
import java.nio.file.Files;
import java.nio.file.Path;
import java.util.regex.Matcher;
import java.util.regex.Pattern;

/** The lines that README.md shows answer as it says, and it names each call of the class and each test. */
public final class ReadmeTest {
    private static final Pattern TOLD = Pattern.compile("(?s)tell\\(x, (.*?)\\);\\s*// (-?\\d+):");
    private static final Pattern CALLED = Pattern.compile("(?m)^x\\.(\\w+)\\(([^)]*)\\);\\s*// (-?\\d+):");
    private static int wrong = 0;

    private static void due(String call, long got, long want) {
        if (got != want) fail(call + " answered " + got + ", README.md says " + want);
    }

    private static void fail(String what) {
        wrong++;
        System.out.println(what);
    }

    /** Written as README.md shows it. */
    private static int tell(StubKeep x, String text) {
        for (int from = 0; from < text.length(); from += 20) {
            int[] ints = new int[5];
            for (int i = 0; i < 20; i++) {
                int c = from + i < text.length() ? text.charAt(from + i) : ' ';
                ints[i / 4] = ints[i / 4] << 8 | c;
            }
            x.feed(ints[0], ints[1], ints[2], ints[3], ints[4]);
        }
        return x.life(text.length());
    }

    private static long called(StubKeep x, String name, String told) throws Exception {
        String[] values = told.isEmpty() ? new String[0] : told.split(", ");
        for (Method m : StubKeep.class.getDeclaredMethods()) {
            if (!m.getName().equals(name) || !Modifier.isPublic(m.getModifiers())) continue;
            Object[] given = new Object[values.length];
            for (int i = 0; i < given.length; i++) {
                if (m.getParameterTypes()[i] == long.class) given[i] = Long.parseLong(values[i]);
                else given[i] = Integer.parseInt(values[i]);
            }
            return ((Number) m.invoke(x, given)).longValue();
        }
        fail("there is no " + name);
        return 0;
    }

    private static void lines(String readme) throws Exception {
        int from = readme.indexOf("StubKeep x = new StubKeep();");
        int to = from < 0 ? -1 : readme.indexOf("```", from);
        if (to < 0) {
            fail("no lines are shown");
            return;
        }
        String shown = readme.substring(from, to);
        StubKeep x = new StubKeep();
        Matcher life = TOLD.matcher(shown);
        if (life.find()) due("tell", tell(x, life.group(1).replaceAll("\"\\s*\\+\\s*\"", "").replace("\"", "")), Long.parseLong(life.group(2)));
        else fail("no life is told");
        Matcher call = CALLED.matcher(shown);
        int calls = 0;
        while (call.find()) {
            due(call.group(), called(x, call.group(1), call.group(2)), Long.parseLong(call.group(3)));
            calls++;
        }
        int all = shown.split("\nx\\.").length - 1;
        if (calls != all || calls == 0) fail(calls + " calls were read of " + all);
    }

    private static void names(String readme) throws Exception {
        for (Method m : StubKeep.class.getDeclaredMethods()) {
            if (Modifier.isPublic(m.getModifiers()) && !readme.contains("`" + m.getName() + "`")) fail("README.md doesn't name " + m.getName());
        }
        try (var files = Files.list(Path.of("src/test/java"))) {
            files.map(f -> f.getFileName().toString()).filter(f -> f.endsWith("Test.java")).map(f -> f.replace(".java", ""))
                    .filter(f -> !readme.contains("`" + f + "`")).forEach(f -> fail("README.md doesn't name " + f));
        }
    }

    public static void main(String[] args) throws Exception {
        String readme = Files.readString(Path.of("README.md"), StandardCharsets.UTF_8);
        lines(readme);
        names(readme);
        System.out.println("README.md, " + wrong + " not as it says");
        if (wrong != 0) System.exit(1);
    }
}
