import java.lang.reflect.Method;
import java.lang.reflect.Modifier;
import java.nio.file.Files;
import java.nio.file.Path;
import java.util.regex.Matcher;
import java.util.regex.Pattern;

/** README.md: its examples, one after the other on one row, answer as it says, and its table has every call. */
final class ReadmeTest {
    private static final Pattern EXAMPLE = Pattern.compile("row\\.(\\w+)\\((.*)\\); +// (-?\\d+).*");
    private static final Pattern FED =
        Pattern.compile("for \\(char letter : \"(.*)\"\\.toCharArray\\(\\)\\) row\\.feed\\(letter\\);");
    private final Checks c;
    private final TwoElbows row = new TwoElbows();

    ReadmeTest(Checks checks) {
        c = checks;
    }

    void runAll(String readme) throws Exception {
        int examples = 0;
        String page = Files.readString(Path.of(readme));
        for (String line : page.split("\n")) {
            Matcher example = EXAMPLE.matcher(line);
            Matcher fed = FED.matcher(line);
            if (fed.matches()) feed(fed.group(1));
            if (!example.matches()) continue;
            examples++;
            String call = example.group(1) + "(" + example.group(2) + ")";
            c.same(0, "README: " + call, ask(example.group(1), example.group(2)), Long.parseLong(example.group(3)));
        }
        c.same(0, "README: has examples", examples > 20 ? 1 : 0, 1);
        for (Method m : TwoElbows.class.getDeclaredMethods()) {
            if (Modifier.isPublic(m.getModifiers())) tableHas(page, m);
        }
    }

    private void feed(String text) {
        for (char letter : text.toCharArray()) c.same(0, "README: " + letter, row.feed(letter) > 0 ? 1 : 0, 1);
    }

    private long ask(String name, String told) throws Exception {
        Method asked = null;
        for (Method m : TwoElbows.class.getDeclaredMethods()) {
            if (m.getName().equals(name)) asked = m;
        }
        String[] words = told.isEmpty() ? new String[0] : told.split(", ");
        Object[] arguments = new Object[words.length];
        for (int k = 0; k < words.length; k++) {
            int number = words[k].charAt(0) == '\'' ? words[k].charAt(1) : Integer.parseInt(words[k]);
            boolean isLong = asked.getParameterTypes()[k] == long.class;
            if (isLong) arguments[k] = (long) number;
            else arguments[k] = number;
        }
        return ((Number) asked.invoke(row, arguments)).longValue();
    }

    private void tableHas(String page, Method m) {
        String arguments = m.getParameterCount() == 0 ? "" : "\\w+" + ", \\w+".repeat(m.getParameterCount() - 1);
        boolean has = Pattern.compile("(?m)^\\| `" + m.getName() + "\\(" + arguments + "\\)` \\|").matcher(page).find();
        c.same(0, "README: a row of its table for " + m, has ? 1 : 0, 1);
    }
}
