import java.lang.reflect.Constructor;
import java.lang.reflect.Field;
import java.lang.reflect.Method;
import java.lang.reflect.Modifier;
import java.nio.file.Files;
import java.nio.file.Path;
import java.util.ArrayList;
import java.util.Arrays;
import java.util.HashSet;
import java.util.List;
import java.util.Set;
import java.util.regex.Matcher;
import java.util.regex.Pattern;

/** What of LANGUAGE.md can be seen mechanically, in the source's text and in the compiled classes. */
final class LanguageTest {
    private static final String[] RULED_OUT = {"throw", "throws", "try", "catch", "finally", "synchronized", "assert",
        "volatile", "native", "record\\s+\\w+\\s*\\(", "package", "protected", "->", "::", "Exact\\b", "hashCode",
        "toString", "equals", "NaN", "Random", "Thread", "currentTimeMillis", "nanoTime"};
    private final Checks c;

    LanguageTest(Checks checks) {
        c = checks;
    }

    void runAll(String source) throws Exception {
        String code = withoutComments(Files.readString(Path.of(source)));
        words(code);
        methodsAreShort(code);
        nothingIsMadeInCalls(code);
        face();
        for (Class<?> inside : classes()) inside(inside);
        c.same(0, "rule 11: classes of the file, at most 12", Math.max(12, classes().size()), 12);
    }

    private static String withoutComments(String source) {
        return source.replaceAll("(?s)/\\*.*?\\*/", "").replaceAll("//[^\n]*", "");
    }

    private static List<Class<?>> classes() {
        List<Class<?>> all = new ArrayList<>(Arrays.asList(TwoElbows.class.getDeclaredClasses()));
        all.add(TwoElbows.class);
        return all;
    }

    private void words(String code) {
        for (String word : RULED_OUT) {
            String pattern = Character.isLetter(word.charAt(0)) ? "\\b" + word : word;
            if (word.matches("[a-z]+")) pattern += "\\b";
            c.same(0, "ruled out: " + word, Pattern.compile(pattern).matcher(code).results().count(), 0);
        }
        Matcher imports = Pattern.compile("import [^;]*;").matcher(code);
        while (imports.find()) {
            boolean allowed = imports.group().matches("import java.util.(Arrays|ArrayList|List|Iterator);");
            c.same(0, imports.group(), allowed ? 1 : 0, 1);
        }
        c.same(0, "rule 3: signs of the source", code.chars().filter(sign -> sign > 126).count(), 0);
    }

    /** From a line that opens a method to the line that closes it. */
    private void methodsAreShort(String code) {
        String[] lines = code.split("\n");
        int from = -1;
        String indent = "";
        for (int k = 0; k < lines.length; k++) {
            Matcher opens = Pattern.compile("^( {4}| {8})\\w[^=;]*\\(.*\\) \\{$").matcher(lines[k]);
            if (opens.matches()) {
                from = k;
                indent = opens.group(1);
            } else if (from >= 0 && lines[k].equals(indent + "}")) {
                c.same(0, "rule 11: " + lines[from].trim(), Math.max(60, k - from + 1), 60);
                from = -1;
            }
        }
    }

    /** All rows are made with the object; the one loop that makes any has eight SHELVES at most. */
    private void nothingIsMadeInCalls(String code) {
        for (String line : code.split("\n")) {
            if (!line.contains("new ")) continue;
            boolean isField = line.matches("\\s+(private )?final \\S+ \\w+ = new .*;");
            boolean isShelf = line.contains("shelves[shelf] = new Shelf();");
            c.same(0, "rule 12: " + line.trim(), isField || isShelf ? 1 : 0, 1);
        }
    }

    private void face() {
        int publicMethods = 0;
        Set<String> names = new HashSet<>();
        for (Method m : TwoElbows.class.getDeclaredMethods()) {
            if (Modifier.isPublic(m.getModifiers())) {
                publicMethods++;
                names.add(m.getName());
            }
        }
        c.same(0, "rule 1: public methods", publicMethods, 36);
        for (Class<?> inside : classes()) {
            for (Method m : inside.getDeclaredMethods()) {
                boolean isFace = inside == TwoElbows.class && Modifier.isPublic(m.getModifiers());
                c.same(0, "rule 1: the name of " + m, isFace || !names.contains(m.getName()) ? 1 : 0, 1);
            }
        }
        for (Method m : TwoElbows.class.getDeclaredMethods()) seen(m.toString(), m.getModifiers());
        for (Constructor<?> m : TwoElbows.class.getDeclaredConstructors()) seen(m.toString(), m.getModifiers());
        for (Field f : TwoElbows.class.getDeclaredFields()) {
            seen(f.toString(), f.getModifiers());
            boolean isConstant = "BAD NOT FULL STATE VOID".contains(f.getName());
            c.same(0, "rule 1: " + f, Modifier.isPublic(f.getModifiers()) == isConstant ? 1 : 0, 1);
        }
    }

    private void seen(String member, int modifiers) {
        c.same(0, "rule 1: " + member, Modifier.isPublic(modifiers) || Modifier.isPrivate(modifiers) ? 1 : 0, 1);
    }

    private void inside(Class<?> inside) {
        boolean isTop = inside == TwoElbows.class;
        boolean isStatic = isTop || Modifier.isStatic(inside.getModifiers());
        c.same(0, "rule 2: static " + inside, isStatic ? 1 : 0, 1);
        int fields = 0;
        for (Field f : inside.getDeclaredFields()) {
            boolean isConstant = Modifier.isStatic(f.getModifiers());
            if (!isConstant) fields++;
            c.same(0, "rule 5: " + f, !isConstant || Modifier.isFinal(f.getModifiers()) ? 1 : 0, 1);
        }
        c.same(0, "rule 11: fields of " + inside, Math.max(20, fields), 20);
        for (Method m : inside.getDeclaredMethods()) {
            c.same(0, "rule 11: parameters of " + m, Math.max(7, m.getParameterCount()), 7);
        }
    }
}
