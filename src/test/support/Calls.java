import java.lang.reflect.InvocationTargetException;
import java.lang.reflect.Method;
import java.util.HashMap;
import java.util.Map;
import java.util.regex.Matcher;
import java.util.regex.Pattern;

/**
 * An object whose calls are written as text, such as "signer(0) link(3, 0, MIN)", so that a wrong answer is told with
 * just the call that gave it. MIN and MAX stand for the least and the greatest int.
 */
final class Calls {
    /** The document promises nothing about an object after that many calls. */
    static final int MOST_CALLS = 512;

    private static final int MOST_DAYS = 60;
    private static final Pattern CALL = Pattern.compile("(\\w+)\\(([^)]*)\\)");

    private final Object object;
    private final Map<String, Method> methods = new HashMap<>();
    private int made = 0;

    Calls(int accounts) {
        this(new ConditionEscrow(accounts));
    }

    Calls(Object object) {
        this.object = object;
        for (Method method : object.getClass().getDeclaredMethods()) {
            method.setAccessible(true);
            methods.put(method.getName(), method);
        }
    }

    int made() {
        return made;
    }

    /** Each of the calls is to answer the number. */
    void due(int want, String calls) {
        Matcher found = CALL.matcher(calls);
        while (found.find()) Checks.due(found.group(), answer(found), want);
    }

    /** Calls that lead to the state under test; one that is refused would lead elsewhere. */
    void taken(String calls) {
        Matcher found = CALL.matcher(calls);
        while (found.find()) Checks.holds(found.group() + " is accepted", answer(found) >= 0);
    }

    void taken(int times, String calls) {
        for (int i = 0; i < times; i++) taken(calls);
    }

    /** Each of the calls is to answer the same on both objects. */
    static void same(Calls one, Calls other, String calls) {
        Matcher found = CALL.matcher(calls);
        while (found.find()) Checks.due(found.group(), one.answer(found), other.answer(found));
    }

    void untilDay(int day) {
        int today = answer("today");
        while (today < day) {
            int days = Math.min(MOST_DAYS, day - today);
            taken("advance(" + days + ")");
            today += days;
        }
    }

    int answer(String method, int... args) {
        Object[] boxed = new Object[args.length];
        for (int i = 0; i < args.length; i++) boxed[i] = args[i];
        if (++made > MOST_CALLS) throw new IllegalStateException("more than " + MOST_CALLS + " calls");
        try {
            return (Integer) methods.get(method).invoke(object, boxed);
        } catch (InvocationTargetException | IllegalAccessException e) {
            throw new IllegalStateException(method + " failed: " + e.getCause(), e);
        }
    }

    private int answer(Matcher call) {
        String text = call.group(2).strip();
        String[] words = text.isEmpty() ? new String[0] : text.split("\\s*,\\s*");
        int[] args = new int[words.length];
        for (int i = 0; i < words.length; i++) args[i] = number(words[i]);
        return answer(call.group(1), args);
    }

    private static int number(String word) {
        if (word.equals("MIN")) return Integer.MIN_VALUE;
        if (word.equals("MAX")) return Integer.MAX_VALUE;
        return Integer.parseInt(word);
    }
}
