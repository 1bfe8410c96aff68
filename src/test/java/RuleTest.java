import java.lang.reflect.Constructor;
import java.lang.reflect.Field;
import java.lang.reflect.Method;
import java.lang.reflect.Modifier;
import java.nio.file.Files;
import java.nio.file.Path;
import java.util.ArrayList;
import java.util.Arrays;
import java.util.HashSet;
import java.util.List;
import java.util.Set;
import java.util.regex.Matcher;
import java.util.regex.Pattern;

/** The document's face by reflection, and what of LANGUAGE.md can be seen in the source. */
public final class RuleTest {
    private static final Checks T = new Checks();

    /** The lines of the face in the document, as "type name(types)". */
    private static Set<String> documentFace() throws Exception {
        String doc = Files.readString(Path.of("../shared/DOC.md"));
        Matcher m = Pattern.compile("    public (int|boolean) (\\w+)\\(([^)]*)\\);").matcher(doc);
        Set<String> face = new HashSet<>();
        while (m.find()) {
            List<String> types = new ArrayList<>();
            for (String p : m.group(3).split(",")) if (!p.isBlank()) types.add(p.trim().split(" ")[0]);
            face.add(m.group(1) + " " + m.group(2) + "(" + String.join(",", types) + ")");
        }
        return face;
    }

    private static void face() throws Exception {
        Set<String> want = documentFace();
        T.due("rule 1: methods in the document", want.size(), 51);
        Set<String> have = new HashSet<>();
        Set<String> publicNames = new HashSet<>();
        for (Method m : BowHouse.class.getDeclaredMethods()) {
            if (Modifier.isPublic(m.getModifiers())) {
                List<String> types = new ArrayList<>();
                for (Class<?> c : m.getParameterTypes()) types.add(c.getName());
                have.add(m.getReturnType().getName() + " " + m.getName() + "(" + String.join(",", types) + ")");
                publicNames.add(m.getName());
            }
        }
        T.due("rule 1: the public methods are the document's " + have, have.equals(want), true);
        for (Method m : BowHouse.class.getDeclaredMethods()) {
            int mods = m.getModifiers();
            T.due("rule 1: public or private " + m, Modifier.isPublic(mods) || Modifier.isPrivate(mods), true);
            T.due("rule 1: no private namesake " + m, Modifier.isPrivate(mods) && publicNames.contains(m.getName()), false);
            T.due("rule 11: seven parameters " + m, m.getParameterCount() <= 7, true);
        }
        for (Field f : BowHouse.class.getDeclaredFields()) {
            boolean shown = Modifier.isPublic(f.getModifiers()) && f.getName().equals("NONE");
            T.due("rule 1: NONE or private " + f, shown || Modifier.isPrivate(f.getModifiers()), true);
        }
        Constructor<?>[] made = BowHouse.class.getDeclaredConstructors();
        T.due("rule 1: one constructor", made.length == 1 && made[0].getParameterCount() == 0 && Modifier.isPublic(made[0].getModifiers()), true);
        T.due("rule 1: final", Modifier.isFinal(BowHouse.class.getModifiers()), true);
    }

    private static void inner() {
        Class<?>[] classes = BowHouse.class.getDeclaredClasses();
        T.due("rule 11: classes", classes.length <= 11, true);
        List<Class<?>> all = new ArrayList<>(Arrays.asList(classes));
        all.add(BowHouse.class);
        for (Class<?> c : all) {
            if (c != BowHouse.class) T.due("rule 2: static " + c, Modifier.isStatic(c.getModifiers()), true);
            int fields = 0;
            for (Field f : c.getDeclaredFields()) {
                if (Modifier.isStatic(f.getModifiers())) T.due("rule 5: final " + f, Modifier.isFinal(f.getModifiers()), true);
                else fields++;
            }
            T.due("rule 11: fields of " + c, fields <= 20, true);
            for (Method m : c.getDeclaredMethods()) T.due("rule 11: seven parameters " + m, m.getParameterCount() <= 7, true);
        }
    }

    private static String bare(String source) {
        return source.replaceAll("(?s)/\\*.*?\\*/", " ").replaceAll("//[^\n]*", " ")
                .replaceAll("\"(\\\\.|[^\"\\\\])*\"", "\"\"").replaceAll("'(\\\\.|[^'\\\\])'", "' '");
    }

    private static void source() throws Exception {
        String whole = Files.readString(Path.of("src/main/java/BowHouse.java"));
        String source = bare(whole);
        for (String word : new String[] {"throw", "throws", "try", "catch", "finally", "synchronized", "assert", "volatile", "native",
            "protected", "package", "equals", "hashCode", "toString", "Random", "Thread", "System\\.(?!arraycopy)\\w+", "Object",
            "Exception", "Error", "double", "float", "goto"}) {
            T.due("rule 6, 13: no " + word, Pattern.compile("\\b" + word + "\\b").matcher(source).find(), false);
        }
        T.due("rule 2: no lambda", source.contains("->"), false);
        T.due("rule 2: no method reference", source.contains("::"), false);
        T.due("rule 10: no texts joined by +", Pattern.compile("\"\\s*\\+|\\+\\s*\"").matcher(source).find(), false);
        T.due("rule 9: no while (true)", Pattern.compile("while \\(true|for \\(;;").matcher(source).find(), false);
        T.due("rule 5: no initialiser block", Pattern.compile("static\\s*\\{").matcher(source).find(), false);
        for (char c : whole.toCharArray()) if (c > 126) T.due("rule 4: a sign above 126", c, 0);
        Matcher imports = Pattern.compile("import ([^;]+);").matcher(source);
        while (imports.find()) T.due("rule 4: import " + imports.group(1), imports.group(1).equals("java.util.Arrays"), true);
        shortMethods(source);
    }

    private static void shortMethods(String source) {
        String[] lines = source.split("\n");
        Pattern head = Pattern.compile("^( {4}| {8})(public|private|static|int|void|boolean|State)[^;=]*\\) \\{$");
        int methods = 0;
        for (int i = 0; i < lines.length; i++) {
            Matcher m = head.matcher(lines[i]);
            if (!m.find()) continue;
            methods++;
            int length = lines.length;
            for (int j = i; j < lines.length; j++) {
                if (lines[j].equals(m.group(1) + "}")) {
                    length = j - i + 1;
                    break;
                }
            }
            T.due("rule 11: a method of " + length + " lines: " + lines[i].trim(), length <= 60, true);
        }
        T.due("rule 11: methods were found", methods > 90, true);
    }

    public static void main(String[] args) throws Exception {
        face();
        inner();
        source();
        T.close();
    }
}
