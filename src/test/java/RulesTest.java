import java.lang.reflect.Constructor;
import java.lang.reflect.Field;
import java.lang.reflect.Method;
import java.lang.reflect.Modifier;
import java.nio.charset.StandardCharsets;
import java.nio.file.Files;
import java.nio.file.Path;
import java.util.ArrayList;
import java.util.Arrays;
import java.util.HashSet;
import java.util.List;
import java.util.Set;
import java.util.TreeSet;
import java.util.regex.Matcher;
import java.util.regex.Pattern;

/** The public face as the document has it, and what of the rules of the language can be seen. */
public final class RulesTest {
    private static int wrong = 0;

    private static void must(boolean so, String what) {
        if (!so) {
            wrong++;
            System.out.println(what);
        }
    }

    private static Set<String> faceOfDocument() throws Exception {
        String doc = Files.readString(Path.of("../shared/DOC.md"), StandardCharsets.UTF_8);
        Set<String> face = new TreeSet<>();
        Matcher m = Pattern.compile("(?m)^    public (int|long) (\\w+)\\(([^)]*)\\);$").matcher(doc);
        while (m.find()) face.add(m.group(1) + " " + m.group(2) + "(" + m.group(3).replaceAll(" \\w+(,|$)", "$1").replace(", ", ",") + ")");
        return face;
    }

    private static Set<String> faceOfClass() {
        Set<String> face = new TreeSet<>();
        for (Method m : StubKeep.class.getDeclaredMethods()) {
            if (!Modifier.isPublic(m.getModifiers())) continue;
            List<String> types = new ArrayList<>();
            for (Class<?> t : m.getParameterTypes()) types.add(t.getName());
            face.add(m.getReturnType().getName() + " " + m.getName() + "(" + String.join(",", types) + ")");
        }
        return face;
    }

    private static void face() throws Exception {
        must(faceOfDocument().size() == 45, "the document's face was not found");
        must(faceOfDocument().equals(faceOfClass()), "the face is " + faceOfClass());
        must(Modifier.isFinal(StubKeep.class.getModifiers()), "the class is not final");
        for (Field f : StubKeep.class.getDeclaredFields()) {
            boolean none = f.getName().equals("NONE");
            must(none ? Modifier.isPublic(f.getModifiers()) : Modifier.isPrivate(f.getModifiers()), "field " + f);
        }
        Constructor<?>[] made = StubKeep.class.getDeclaredConstructors();
        must(made.length == 1 && made[0].getParameterCount() == 0, "constructors " + Arrays.toString(made));
    }

    private static void members() {
        Set<String> names = new HashSet<>();
        for (Method m : StubKeep.class.getDeclaredMethods()) if (Modifier.isPublic(m.getModifiers())) names.add(m.getName());
        List<Class<?>> all = new ArrayList<>(Arrays.asList(StubKeep.class.getDeclaredClasses()));
        must(all.size() <= 11, "classes inside: " + all.size());
        for (Class<?> c : all) {
            must(Modifier.isStatic(c.getModifiers()) && !Modifier.isPublic(c.getModifiers()) && !Modifier.isProtected(c.getModifiers()), "class " + c);
        }
        all.add(StubKeep.class);
        for (Class<?> c : all) {
            for (Method m : c.getDeclaredMethods()) {
                must(m.getParameterCount() <= 7, "parameters of " + m);
                must(Modifier.isPublic(m.getModifiers()) || !names.contains(m.getName()), "named as a public one: " + m);
                must(c != StubKeep.class || Modifier.isPublic(m.getModifiers()) || Modifier.isPrivate(m.getModifiers()), "package-visible: " + m);
            }
            int fields = 0;
            for (Field f : c.getDeclaredFields()) {
                if (!Modifier.isStatic(f.getModifiers())) fields++;
                else must(Modifier.isFinal(f.getModifiers()), "static state: " + f);
            }
            must(fields <= 20, "fields of " + c + ": " + fields);
        }
    }

    private static void source() throws Exception {
        String text = Files.readString(Path.of("src/main/java/StubKeep.java"), StandardCharsets.UTF_8);
        must(text.chars().allMatch(c -> c == 10 || c >= 32 && c < 127), "signs beyond 127");
        String code = text.replaceAll("(?s)/\\*.*?\\*/", "").replaceAll("//[^\\n]*", "").replaceAll("\"[^\"]*\"", "\"\"");
        String[] words = {"throw", "throws", "try", "catch", "finally", "synchronized", "assert", "double", "float", "native", "transient",
            "volatile", "package", "System.out", "System.err", "Random", "Thread", "hashCode", "toString", "Exact", "var", "yield", "goto"};
        for (String word : words) must(!Pattern.compile("\\b" + Pattern.quote(word) + "\\b").matcher(code).find(), "the word " + word);
        must(!code.contains("->") && !code.contains("::"), "a lambda or a reference");
        must(!code.contains("static {"), "a static block");
        Matcher imports = Pattern.compile("(?m)^import (.*);$").matcher(code);
        while (imports.find()) must(imports.group(1).equals("java.util.Arrays"), "import " + imports.group(1));
        Matcher library = Pattern.compile("\\b(Arrays|System|Integer|Long|Math|String|Character)\\.(\\w+)").matcher(code);
        Set<String> may = Set.of("Arrays.fill", "System.arraycopy", "Integer.bitCount", "Math.max", "Math.min");
        while (library.find()) must(may.contains(library.group()), "library: " + library.group());
        longMethods(text);
    }

    private static void longMethods(String text) {
        String[] lines = text.split("\n");
        for (int i = 0; i < lines.length; i++) {
            if (!lines[i].matches("^ {4}( {4})?[a-z].*\\) \\{$")) continue;
            String end = lines[i].replaceFirst("^( *).*", "$1") + "}";
            int j = i;
            while (j < lines.length && !lines[j].equals(end)) j++;
            must(j - i < 60, "a long method: " + lines[i].trim());
        }
    }

    public static void main(String[] args) throws Exception {
        face();
        members();
        source();
        System.out.println("the rules, " + wrong + " not kept");
        if (wrong != 0) System.exit(1);
    }
}
