import java.lang.reflect.Method;
import java.lang.reflect.Modifier;
import java.nio.file.Files;
import java.nio.file.Path;
import java.util.HashSet;
import java.util.Set;
import java.util.regex.Matcher;
import java.util.regex.Pattern;

/** README.md: its example answers as it says, and each call of the face stands on the page. */
public final class ReadmeTest {
    private static final Due DUE = new Due();
    private static final Pattern EXAMPLE = Pattern.compile("(?s)```java\n(.*?)```");
    private static final Pattern TEXT = Pattern.compile("\"(\\w+)\"");
    private static final Pattern CALL = Pattern.compile("x\\.(\\w+)\\((.*?)\\); +// (-?\\d+): .+");
    private static final int FEWEST_CALLS = 25;

    public static void main(String[] args) throws Exception {
        String page = Files.readString(Path.of(args.length > 2 ? args[2] : "README.md"));
        Matcher example = EXAMPLE.matcher(page);
        DUE.is("an example", example.find() ? 1 : 0, 1);
        int told = runs(example.group(1));
        DUE.is("calls told: " + told, told >= FEWEST_CALLS ? 1 : 0, 1);
        names(page);
        DUE.end();
    }

    private static int runs(String example) throws Exception {
        HalfTruths x = new HalfTruths();
        int told = 0;
        for (String line : example.split("\n")) {
            Matcher call = CALL.matcher(line);
            if (call.matches()) {
                DUE.is(line, answer(x, call.group(1), call.group(2)), Long.parseLong(call.group(3)));
                told++;
            } else if (line.startsWith("for ")) {
                Matcher text = TEXT.matcher(line);
                DUE.is("a text in " + line, text.find() ? 1 : 0, 1);
                Due.write(x, text.group(1));
            } else {
                DUE.is("understood: " + line, line.equals("HalfTruths x = new HalfTruths();") ? 1 : 0, 1);
            }
        }
        return told;
    }

    private static long answer(HalfTruths x, String name, String told) throws Exception {
        String[] words = told.isEmpty() ? new String[0] : told.split(", ");
        for (Method m : HalfTruths.class.getMethods()) {
            if (m.getName().equals(name) && m.getParameterCount() == words.length) {
                Object[] given = new Object[words.length];
                for (int k = 0; k < words.length; k++) {
                    given[k] = value(m.getParameterTypes()[k], words[k]);
                }
                return ((Number) m.invoke(x, given)).longValue();
            }
        }
        throw new IllegalStateException("no such call: " + name + "(" + told + ")");
    }

    private static Object value(Class<?> type, String word) {
        if (type == boolean.class) {
            return Boolean.valueOf(word);
        }
        if (type == long.class) {
            return Long.valueOf(word);
        }
        return Integer.valueOf(word);
    }

    private static void names(String page) {
        Set<String> named = new HashSet<>();
        Matcher word = Pattern.compile("`(\\w+)`").matcher(page);
        while (word.find()) {
            named.add(word.group(1));
        }
        for (Method m : HalfTruths.class.getDeclaredMethods()) {
            if (Modifier.isPublic(m.getModifiers())) {
                DUE.is("named: " + m.getName(), named.contains(m.getName()) ? 1 : 0, 1);
            }
        }
    }
}
