import java.lang.reflect.Method;
import java.lang.reflect.Modifier;
import java.nio.file.Files;
import java.nio.file.Path;
import java.util.List;
import java.util.regex.Matcher;
import java.util.regex.Pattern;

/** README.md keeps its word: each call of its example answers what stands behind it, and every call is named. */
public final class ReadmeTest {
    private static final Pattern TYPED = Pattern.compile("for \\(char c : \"(.*)\"\\.toCharArray\\(\\)\\) x\\.type\\((\\d), c\\);.*");
    private static final Pattern ASKED = Pattern.compile("x\\.(\\w+)\\(([-\\d, ]*)\\); +// (-?\\d+):.*");

    public static void main(String[] args) throws Exception {
        String page = Files.readString(Path.of("README.md"));
        example(page);
        everyCall(page);
        Due.end();
    }

    private static void example(String page) throws Exception {
        int from = page.indexOf("```java\n") + "```java\n".length();
        List<String> lines = page.substring(from, page.indexOf("```", from)).lines().toList();
        Due.dueTrue("the first line makes an object", lines.get(0).equals("CatBeat x = new CatBeat();"));
        CatBeat x = new CatBeat();
        for (String line : lines.subList(1, lines.size())) {
            Matcher typed = TYPED.matcher(line);
            Matcher asked = ASKED.matcher(line);
            if (typed.matches()) {
                Due.typeAll(x, Integer.parseInt(typed.group(2)), typed.group(1));
            } else if (asked.matches()) {
                Due.due(line, answerOf(x, asked.group(1), asked.group(2)), Long.parseLong(asked.group(3)));
            } else {
                Due.dueTrue("a line that is understood: " + line, false);
            }
        }
    }

    private static long answerOf(CatBeat x, String call, String told) throws Exception {
        String[] numbers = told.isEmpty() ? new String[0] : told.split(", ");
        Object[] values = new Object[numbers.length];
        Class<?>[] types = new Class<?>[numbers.length];
        for (int i = 0; i < numbers.length; i++) {
            values[i] = Integer.parseInt(numbers[i]);
            types[i] = int.class;
        }
        return ((Number) CatBeat.class.getMethod(call, types).invoke(x, values)).longValue();
    }

    private static void everyCall(String page) {
        for (Method method : CatBeat.class.getDeclaredMethods()) {
            if (Modifier.isPublic(method.getModifiers())) {
                Due.dueTrue("named: " + method.getName(), page.contains("`" + method.getName() + "`"));
            }
        }
    }
}
