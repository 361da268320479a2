import java.lang.reflect.Field;
import java.lang.reflect.Method;
import java.lang.reflect.Modifier;
import java.nio.file.Files;
import java.nio.file.Path;
import java.util.Arrays;
import java.util.Set;
import java.util.TreeSet;
import java.util.regex.Matcher;
import java.util.regex.Pattern;

/** The public face of the document, and those rules of LANGUAGE.md that a machine can look for. Takes the source's path. */
public final class FaceTest {
    private static final Due DUE = new Due();
    private static final String[] FACE = {
        "int hill(int,int)", "int put(int,int,int,int)", "int at(int,int,int)", "int runner(int,int,int)",
        "int line(int,int,int)", "int type(long,int)", "int clear()", "int read()", "int goes(int,int,int)",
        "int down(int,int)", "int best(int,int,int)", "int fall(int,int)", "int place(int)", "int clashes()",
        "int apart()", "int began(int,int)", "int cheese(int,int)", "int fence(int,int)", "int feet(int)",
        "int catchers()", "int bale()", "int run()", "int undo()", "int hurt(int)", "int heal()", "int waits(int,int)",
        "int drawn(int,int)", "long part(int)", "int image(int)", "int from(int)", "int status(int)", "int count(int)",
        "long digest()"};
    private static final Set<String> NAMES = new TreeSet<>();

    public static void main(String[] args) throws Exception {
        face();
        members(CheeseHill.class);
        Class<?>[] inside = CheeseHill.class.getDeclaredClasses();
        for (Class<?> c : inside) {
            members(c);
            DUE.is("rule 1: static: " + c.getName(), Modifier.isStatic(c.getModifiers()) ? 1 : 0, 1);
            DUE.is("rule 1: not public: " + c.getName(), c.getModifiers() & (Modifier.PUBLIC | Modifier.PROTECTED), 0);
        }
        DUE.is("rule 11: some twelve classes", inside.length + 1 <= 12 ? 1 : 0, 1);
        source(Files.readString(Path.of(args.length > 0 ? args[0] : "src/main/java/CheeseHill.java")));
        DUE.end("FaceTest");
    }

    private static String told(Method m) {
        StringBuilder b = new StringBuilder(m.getReturnType() + " " + m.getName() + "(");
        for (Class<?> p : m.getParameterTypes()) {
            b.append(b.charAt(b.length() - 1) == '(' ? "" : ",").append(p);
        }
        return b.append(")").toString();
    }

    private static void face() throws Exception {
        Set<String> due = new TreeSet<>(Arrays.asList(FACE));
        for (Method m : CheeseHill.class.getDeclaredMethods()) {
            if (Modifier.isPublic(m.getModifiers())) {
                DUE.is("face: " + told(m), due.remove(told(m)) ? 1 : 0, 1);
                DUE.is("face: not static: " + told(m), m.getModifiers() & Modifier.STATIC, 0);
                NAMES.add(m.getName());
            }
        }
        DUE.is("face: missing " + due, due.size(), 0);
        DUE.is("face: final", CheeseHill.class.getModifiers(), Modifier.PUBLIC | Modifier.FINAL);
        DUE.is("face: constructors", CheeseHill.class.getDeclaredConstructors().length, 1);
        DUE.is("face: the constructor", CheeseHill.class.getDeclaredConstructor().getModifiers(), Modifier.PUBLIC);
        Set<String> constants = new TreeSet<>();
        for (Field f : CheeseHill.class.getDeclaredFields()) {
            if (!Modifier.isPrivate(f.getModifiers())) {
                constants.add(f.getName() + " " + Modifier.toString(f.getModifiers()) + " " + f.getType());
            }
        }
        String rest = " public static final int";
        DUE.is("face: constants " + constants, constants.equals(
            Set.of("NONE" + rest, "BAD" + rest, "NO" + rest, "FULL" + rest)) ? 1 : 0, 1);
    }

    private static void members(Class<?> c) {
        boolean outer = c == CheeseHill.class;
        int fields = 0;
        for (Field f : c.getDeclaredFields()) {
            boolean isStatic = Modifier.isStatic(f.getModifiers());
            fields += isStatic ? 0 : 1;
            DUE.is("rule 5: " + f, isStatic && !Modifier.isFinal(f.getModifiers()) ? 1 : 0, 0);
        }
        DUE.is("rule 11: some twenty fields: " + c.getName(), fields <= 20 ? 1 : 0, 1);
        for (Method m : c.getDeclaredMethods()) {
            boolean isPublic = Modifier.isPublic(m.getModifiers());
            DUE.is("rule 1: visible: " + m, outer && !isPublic && !Modifier.isPrivate(m.getModifiers()) ? 1 : 0, 0);
            DUE.is("rule 1: a public one's name: " + m, !isPublic && NAMES.contains(m.getName()) ? 1 : 0, 0);
            DUE.is("rule 11: seven parameters: " + m, m.getParameterCount() <= 7 ? 1 : 0, 1);
            DUE.is("rule 2: lambdas and bridges: " + m, m.isSynthetic() ? 1 : 0, 0);
        }
    }

    private static void source(String whole) {
        String code = whole.replaceAll("(?s)/\\*.*?\\*/", "").replaceAll("//[^\n]*", "").replaceAll("\"[^\"\n]*\"", "\"\"");
        for (char c : whole.toCharArray()) {
            if (c > 126) {
                DUE.is("rule 4: a sign beyond 126", c, 0);
            }
        }
        String[] none = {"\\bthrows?\\b", "\\btry\\b", "\\bcatch\\b", "\\bfinally\\b", "\\bsynchronized\\b", "\\bassert\\b", "->",
            "::", "Exact\\b", "@", "\\bstatic\\s*\\{", "\\bpackage\\b", "\\b(System|Math|Integer|Long|Arrays)\\.(?!arraycopy\\b|min\\b|max\\b|bitCount\\b|fill\\b)",
            "\\b(hashCode|toString|equals)\\b", "\\b(double|float)\\b", "\\bvar\\b", "\\bnew \\w+\\(\\) *\\{"};
        for (String n : none) {
            Matcher m = Pattern.compile(n).matcher(code);
            DUE.is("rules: " + n, m.find() ? 1 : 0, 0);
        }
        Matcher imports = Pattern.compile("import ([^;]*);").matcher(code);
        while (imports.find()) {
            DUE.is("rule 4: import " + imports.group(1), imports.group(1).equals("java.util.Arrays") ? 1 : 0, 1);
        }
        methodsAreShort(whole);
    }

    /** A member of the class is set in by 4 or 8; its body ends with a brace that is set in as much. */
    private static void methodsAreShort(String whole) {
        String[] lines = whole.split("\n");
        for (int k = 0; k < lines.length; k++) {
            Matcher m = Pattern.compile("^( {4}| {8})(?! )[^=;]*\\) \\{$").matcher(lines[k]);
            if (m.find() && !lines[k].matches(" *(if|for|while|switch|\\}).*")) {
                int end = k;
                while (end < lines.length && !lines[end].equals(m.group(1) + "}")) {
                    end++;
                }
                DUE.is("rule 11: sixty lines: " + lines[k].trim(), end - k <= 60 ? 1 : 0, 1);
            }
        }
    }
}
