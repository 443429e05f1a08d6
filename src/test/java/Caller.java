import java.lang.reflect.InvocationTargetException;
import java.lang.reflect.Method;
import java.util.ArrayDeque;
import java.util.Arrays;
import java.util.Deque;
import java.util.HashMap;
import java.util.Map;

/** Makes every call on a Wordnet and on a Model, and tells where the answers part. */
final class Caller {
    private static final Map<String, Method> OF_WORDNET = methodsOf(Wordnet.class);
    private static final Map<String, Method> OF_MODEL = methodsOf(Model.class);

    private final String run;
    private final Wordnet wordnet = new Wordnet();
    private final Model model = new Model();
    private final Deque<String> made = new ArrayDeque<>();
    private int calls = 0;
    private String answer = "";

    Caller(String run) {
        this.run = run;
    }

    private static Map<String, Method> methodsOf(Class<?> type) {
        Map<String, Method> all = new HashMap<>();
        for (Method method : type.getDeclaredMethods()) {
            if (java.lang.reflect.Modifier.isPublic(method.getModifiers())) {
                all.put(method.getName(), method);
            }
        }
        return all;
    }

    private static String outcome(Method method, Object target, Object[] arguments) {
        try {
            return String.valueOf(method.invoke(target, arguments));
        } catch (InvocationTargetException e) {
            return "throws." + e.getCause().getClass().getSimpleName();
        } catch (IllegalAccessException e) {
            throw new IllegalStateException(e);
        }
    }

    /** Whether both answered the same. */
    boolean isSame(String name, Object... arguments) {
        String written = name + Arrays.toString(arguments).replace('[', '(').replace(']', ')');
        String got = outcome(OF_WORDNET.get(name), wordnet, arguments);
        String due = outcome(OF_MODEL.get(name), model, arguments);
        calls++;
        answer = got;
        made.addLast(written + " -> " + got);
        if (made.size() > 40) {
            made.removeFirst();
        }
        if (!got.equals(due)) {
            System.out.println(run + ", call " + calls + ": " + written + " answered " + got + ", due is " + due);
            System.out.println("  the calls before: " + made);
        }
        return got.equals(due);
    }

    String answer() {
        return answer;
    }

    int calls() {
        return calls;
    }

    int manyPacked() {
        return model.ofPack(0);
    }

    int manyWords(int net) {
        return model.ofNet(net, 0);
    }
}
