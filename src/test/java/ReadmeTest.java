import java.io.IOException;
import java.lang.reflect.Method;
import java.lang.reflect.Modifier;
import java.nio.file.Files;
import java.nio.file.Path;
import java.util.HashMap;
import java.util.Map;
import java.util.regex.Matcher;
import java.util.regex.Pattern;

/** The example of README.md: each of its calls answers the number that stands behind it. */
public final class ReadmeTest {
    private static final Pattern EXAMPLE = Pattern.compile("```java\n(.*?)```", Pattern.DOTALL);
    private static final Pattern FIRST_LINE = Pattern.compile("ConditionEscrow escrow = new ConditionEscrow\\((\\d+)\\);");
    private static final Pattern LINE = Pattern.compile("(?:int (\\w+) = )?escrow\\.(\\w+\\([^)]*\\));\\s*// (-?\\d+): .+");
    private static final Pattern WORD = Pattern.compile("\\b[a-z]\\w*\\b(?!\\()");

    public static void main(String[] args) throws IOException {
        String readme = Files.readString(Path.of("README.md"));
        playExample(readme);
        everyMethodIsTold(readme);
        Checks.end();
    }

    private static void playExample(String readme) {
        String[] lines = first(EXAMPLE, readme).group(1).split("\n");
        Calls x = new Calls(Integer.parseInt(first(FIRST_LINE, lines[0]).group(1)));
        Map<String, Integer> variables = new HashMap<>();
        for (int i = 1; i < lines.length; i++) {
            Matcher line = first(LINE, lines[i]);
            String call = WORD.matcher(line.group(2)).replaceAll(word -> String.valueOf(variables.get(word.group())));
            int answer = x.answer(call);
            Checks.due(lines[i] + " " + call, answer, Integer.parseInt(line.group(3)));
            if (line.group(1) != null) variables.put(line.group(1), answer);
        }
    }

    private static void everyMethodIsTold(String readme) {
        for (Method method : ConditionEscrow.class.getDeclaredMethods()) {
            if (!Modifier.isPublic(method.getModifiers())) continue;
            Checks.holds(method.getName() + " is in the table", readme.contains("`" + method.getName() + "("));
        }
    }

    private static Matcher first(Pattern pattern, String text) {
        Matcher matcher = pattern.matcher(text);
        if (!matcher.find()) throw new IllegalStateException(pattern + " is not in: " + text);
        return matcher;
    }
}
