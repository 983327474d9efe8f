import java.lang.reflect.InvocationTargetException;
import java.lang.reflect.Method;
import java.util.HashMap;
import java.util.List;
import java.util.Map;
import java.util.regex.MatchResult;
import java.util.regex.Matcher;
import java.util.regex.Pattern;
import java.util.stream.Collectors;

/**
 * An object whose calls are written as text, such as "signer(0) link(3, 0, MIN)", so that a wrong answer is told with
 * just the call that gave it. MIN and MAX stand for the least and the greatest int.
 */
final class Calls {
    /** The document promises nothing about an object after that many calls. */
    static final int MOST_CALLS = 512;

    private static final int MOST_DAYS = 60;
    private static final Pattern CALL = Pattern.compile("(\\w+)\\(([^)]*)\\)");

    private final Object object;
    private final Map<String, Method> methods = new HashMap<>();
    private int made = 0;

    Calls(int accounts) {
        this(new ConditionEscrow(accounts));
    }

    Calls(Object object) {
        this.object = object;
        for (Method method : object.getClass().getDeclaredMethods()) {
            method.setAccessible(true);
            methods.put(method.getName(), method);
        }
    }

    int made() {
        return made;
    }

    /** The calls of a text one by one. */
    static List<String> each(String calls) {
        return CALL.matcher(calls).results().map(MatchResult::group).collect(Collectors.toList());
    }

    /** Each of the calls is to answer the number. */
    void due(int want, String calls) {
        for (String call : each(calls)) Checks.due(call, answer(call), want);
    }

    /** Each of the calls is to answer the same on both objects. */
    static void same(Calls one, Calls other, String calls) {
        for (String call : each(calls)) Checks.due(call, one.answer(call), other.answer(call));
    }

    /** Calls that lead to the state under test; one that is refused would lead elsewhere. */
    void taken(String calls) {
        for (String call : each(calls)) Checks.holds(call + " is accepted", answer(call) >= 0);
    }

    void taken(int times, String calls) {
        for (int i = 0; i < times; i++) taken(calls);
    }

    void untilDay(int day) {
        int today = answer("today()");
        while (today < day) {
            int days = Math.min(MOST_DAYS, day - today);
            taken("advance(" + days + ")");
            today += days;
        }
    }

    int answer(String call) {
        Matcher parts = CALL.matcher(call);
        if (!parts.matches()) throw new IllegalArgumentException("no call: " + call);
        String text = parts.group(2);
        String[] words = text.isEmpty() ? new String[0] : text.split(", ");
        int[] args = new int[words.length];
        for (int i = 0; i < words.length; i++) args[i] = number(words[i]);
        return answerOf(parts.group(1), args);
    }

    int answerOf(String method, int... args) {
        if (++made > MOST_CALLS) throw new IllegalStateException("more than " + MOST_CALLS + " calls");
        Object[] boxed = new Object[args.length];
        for (int i = 0; i < args.length; i++) boxed[i] = args[i];
        try {
            return (Integer) methods.get(method).invoke(object, boxed);
        } catch (InvocationTargetException | IllegalAccessException e) {
            throw new IllegalStateException(method + " failed: " + e.getCause(), e);
        }
    }

    private static int number(String word) {
        if (word.equals("MIN")) return Integer.MIN_VALUE;
        if (word.equals("MAX")) return Integer.MAX_VALUE;
        return Integer.parseInt(word);
    }
}
