import java.lang.reflect.Constructor;
import java.lang.reflect.Field;
import java.lang.reflect.InvocationTargetException;
import java.lang.reflect.Method;
import java.lang.reflect.Modifier;
import java.util.Arrays;
import java.util.Comparator;
import java.util.HashMap;
import java.util.HashSet;
import java.util.Map;
import java.util.Set;
import java.util.TreeSet;

/** The public face of the document, and those rules of LANGUAGE.md that show on the compiled class. */
public final class FaceTest {
    private static final String[] METHODS = {
        "signer/1", "after/1", "window/2", "gate/1", "link/3", "mark/2", "deposit/2", "offer/3", "terms/3", "cancel/1",
        "advance/1", "today/0", "nodes/0", "truth/1", "score/1", "deals/0", "state/1", "balance/1", "held/0", "entries/0",
        "entryKind/1", "entryAccount/1", "entryAmount/1", "entryDeal/1", "entryDay/1", "balanceOn/2", "lowest/3", "forecast/1",
    };

    public static void main(String[] args) throws Exception {
        classIsPublicAndFinal();
        constantsAreTheDocuments();
        constructorsAreTheDocuments();
        methodsAreTheDocuments();
        fieldsAreNumbersAndArrays();
        noCallEverThrows();
        Checks.end();
    }

    private static void classIsPublicAndFinal() {
        int modifiers = ConditionEscrow.class.getModifiers();
        Checks.holds("the class is public", Modifier.isPublic(modifiers));
        Checks.holds("the class is final", Modifier.isFinal(modifiers));
        Checks.due("nested classes", ConditionEscrow.class.getDeclaredClasses().length, 0);
    }

    private static void constantsAreTheDocuments() throws IllegalAccessException {
        Map<String, Integer> due = new HashMap<>();
        String[] states = {"DRAFT", "WAITING", "HELD", "RELEASED", "REFUNDED", "CANCELLED"};
        String[] kinds = {"DEPOSIT", "FUND", "RELEASE", "REFUND"};
        for (int i = 0; i < states.length; i++) due.put(states[i], i);
        for (int i = 0; i < kinds.length; i++) due.put(kinds[i], i);
        Set<String> found = new HashSet<>();
        for (Field field : ConditionEscrow.class.getDeclaredFields()) {
            if (Modifier.isPrivate(field.getModifiers())) continue;
            found.add(field.getName());
            Checks.holds(field.getName() + " is public", Modifier.isPublic(field.getModifiers()));
            Checks.holds(field.getName() + " is a constant int", isConstant(field) && field.getType() == int.class);
            if (due.containsKey(field.getName())) Checks.due(field.getName(), field.getInt(null), due.get(field.getName()));
        }
        Checks.holds("the constants are the document's: " + found, found.equals(due.keySet()));
    }

    private static void constructorsAreTheDocuments() {
        Constructor<?>[] all = ConditionEscrow.class.getDeclaredConstructors();
        Checks.due("constructors", all.length, 1);
        Checks.holds("the constructor is public", Modifier.isPublic(all[0].getModifiers()));
        Checks.holds("the constructor takes one int", Arrays.equals(all[0].getParameterTypes(), new Class<?>[] {int.class}));
    }

    private static void methodsAreTheDocuments() {
        Set<String> found = new TreeSet<>();
        Set<String> publicNames = new HashSet<>();
        for (Method method : ConditionEscrow.class.getDeclaredMethods()) {
            if (Modifier.isPrivate(method.getModifiers())) continue;
            found.add(method.getName() + "/" + method.getParameterCount());
            publicNames.add(method.getName());
            Checks.holds(method + " is public", Modifier.isPublic(method.getModifiers()));
            Checks.holds(method + " is no static method", !Modifier.isStatic(method.getModifiers()));
            Checks.holds(method + " answers an int", method.getReturnType() == int.class);
            for (Class<?> type : method.getParameterTypes()) Checks.holds(method + " takes ints", type == int.class);
        }
        Checks.holds("the methods are the document's: " + found, found.equals(new TreeSet<>(Arrays.asList(METHODS))));
        for (Method method : ConditionEscrow.class.getDeclaredMethods()) {
            if (!Modifier.isPrivate(method.getModifiers())) continue;
            Checks.holds(method + " bears no public name", !publicNames.contains(method.getName()));
            Checks.holds(method + " takes at most seven parameters", method.getParameterCount() <= 7);
        }
    }

    private static void fieldsAreNumbersAndArrays() {
        int ofObject = 0;
        for (Field field : ConditionEscrow.class.getDeclaredFields()) {
            Class<?> type = field.getType().isArray() ? field.getType().getComponentType() : field.getType();
            Checks.holds(field + " is of a number type or boolean", type.isPrimitive() && type != float.class && type != double.class);
            if (Modifier.isStatic(field.getModifiers())) {
                Checks.holds(field + " is a constant of int or long", isConstant(field));
            } else {
                ofObject++;
            }
        }
        Checks.holds("at most forty fields", ofObject <= 40);
    }

    /** Rule 7 knows no last call: past the 512th an answer is free, but an end is still due. */
    private static void noCallEverThrows() throws IllegalAccessException {
        int[] numbers = {Integer.MIN_VALUE, -20, -1, 0, 1, 2, 3, 5, 6, 7, 11, 12, 20, 23, 24, 60, 64, 1000, 2000, Integer.MAX_VALUE};
        Method[] methods = ConditionEscrow.class.getMethods();
        Arrays.sort(methods, Comparator.comparing(Method::getName));
        ConditionEscrow x = new ConditionEscrow(6);
        long seed = 1;
        for (int call = 0; call < 200000 && Checks.allRight(); call++) {
            Method method = methods[call % methods.length];
            if (method.getDeclaringClass() != ConditionEscrow.class) continue;
            Object[] args = new Object[method.getParameterCount()];
            for (int i = 0; i < args.length; i++) {
                seed = seed * 6364136223846793005L + 1442695040888963407L;
                args[i] = numbers[(int) ((seed >>> 33) % numbers.length)];
            }
            try {
                method.invoke(x, args);
            } catch (InvocationTargetException e) {
                Checks.holds(method.getName() + Arrays.toString(args) + " threw " + e.getCause(), false);
            }
        }
        Checks.due("nodes() after all these calls", x.nodes(), 24);
        Checks.due("deals() after all these calls", x.deals(), 12);
    }

    private static boolean isConstant(Field field) {
        int modifiers = field.getModifiers();
        boolean isWhole = field.getType() == int.class || field.getType() == long.class;
        return Modifier.isStatic(modifiers) && Modifier.isFinal(modifiers) && isWhole;
    }
}
