import java.lang.reflect.Constructor;
import java.lang.reflect.Field;
import java.lang.reflect.Method;
import java.lang.reflect.Modifier;
import java.util.ArrayList;
import java.util.Arrays;
import java.util.HashSet;
import java.util.List;
import java.util.Map;
import java.util.Set;

/** Rule 1 of LANGUAGE.md, on the compiled class: the document's face and nothing else. */
final class LanguageTest {
    private static final Map<String, Integer> CONSTANTS =
        Map.of("BAD", -1, "NOT", -2, "FULL", -3, "STATE", -5, "VOID", -2000000000);
    /** The document's methods with the types of their arguments: i for an int, l for a long. */
    private static final Set<String> METHODS = Set.of("sitter i", "sitters iii", "wide ii", "hours iii", "mend iii",
        "of ii", "feed i", "law ", "rest ii", "strength iii", "go ii", "led ii", "judge ii", "match ", "then iiii",
        "quiet i", "seat ii", "change i", "wider ii", "both ii", "deals ii", "sell i", "image ", "back ", "undo ",
        "redo ", "body i", "act iii", "trace i", "keep ii", "row iii", "put iil", "element ii", "shift iiiii",
        "taken ii", "count i");
    private final Checks c;

    LanguageTest(Checks checks) {
        c = checks;
    }

    void runAll() throws Exception {
        Set<String> names = methods();
        constants();
        for (Constructor<?> made : TwoElbows.class.getDeclaredConstructors()) {
            so(made.toString(), isPublic(made.getModifiers()) && made.getParameterCount() == 0);
        }
        for (Class<?> inside : classes()) {
            for (Method m : inside.getDeclaredMethods()) {
                boolean isFace = inside == TwoElbows.class && isPublic(m.getModifiers());
                so("the name of " + m, isFace || !names.contains(m.getName()));
            }
        }
    }

    private void so(String rule, boolean holds) {
        c.same(0, "rule 1: " + rule, holds ? 1 : 0, 1);
    }

    private static boolean isPublic(int modifiers) {
        return Modifier.isPublic(modifiers);
    }

    private static List<Class<?>> classes() {
        List<Class<?>> all = new ArrayList<>(Arrays.asList(TwoElbows.class.getDeclaredClasses()));
        all.add(TwoElbows.class);
        return all;
    }

    /** Looks at the methods, and gives the names of the public ones. */
    private Set<String> methods() {
        Set<String> names = new HashSet<>();
        for (Method m : TwoElbows.class.getDeclaredMethods()) {
            so(m.toString(), isPublic(m.getModifiers()) || Modifier.isPrivate(m.getModifiers()));
            if (!isPublic(m.getModifiers())) continue;
            names.add(m.getName());
            StringBuilder face = new StringBuilder(m.getName()).append(' ');
            for (Class<?> type : m.getParameterTypes()) face.append(type.getName().charAt(0));
            Class<?> answer = m.getName().equals("element") ? long.class : int.class;
            boolean isPlain = !Modifier.isStatic(m.getModifiers()) && m.getReturnType() == answer;
            so(m.toString(), isPlain && METHODS.contains(face.toString()));
        }
        so("all methods", names.size() == METHODS.size());
        return names;
    }

    private void constants() throws Exception {
        int found = 0;
        for (Field f : TwoElbows.class.getDeclaredFields()) {
            Integer value = CONSTANTS.get(f.getName());
            so(f.toString(), value == null ? Modifier.isPrivate(f.getModifiers()) : isPublic(f.getModifiers()));
            if (value == null) continue;
            found++;
            so(f.toString(), Modifier.isStatic(f.getModifiers()) && Modifier.isFinal(f.getModifiers()));
            so(f + " is " + value, f.getType() == int.class && f.getInt(null) == value);
        }
        so("all constants", found == CONSTANTS.size());
    }
}
