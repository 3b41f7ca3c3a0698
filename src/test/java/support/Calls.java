import java.lang.reflect.InvocationTargetException;
import java.lang.reflect.Method;
import java.util.ArrayList;
import java.util.HashMap;
import java.util.List;
import java.util.Map;

/** Calls told as words: "add 0 99", with MIN and MAX for the least and the greatest int. */
final class Calls {
    /** The calls that may change what later calls answer; all others only tell. */
    private static final List<String> DOING = List.of("sites", "mode", "add", "take", "write", "come", "lose", "twice",
        "save", "fall", "join", "chance", "keep", "back", "cut");

    private static final Map<Class<?>, Map<String, Method>> METHODS = new HashMap<>();

    private Calls() {
    }

    static boolean isDoing(String call) {
        return DOING.contains(call.split(" ")[0]);
    }

    /** What the object answers, or the short name of what it throws: Index, Element, State, Argument. */
    static String answer(Object object, String call) {
        String[] words = call.split(" ");
        Object[] arguments = new Object[words.length - 1];
        for (int i = 0; i < arguments.length; i++) {
            arguments[i] = argument(words[i + 1]);
        }
        try {
            return String.valueOf(method(object.getClass(), words[0]).invoke(object, arguments));
        } catch (InvocationTargetException e) {
            return shortName(e.getCause());
        } catch (IllegalAccessException e) {
            throw new IllegalStateException(call, e);
        }
    }

    private static String shortName(Throwable thrown) {
        switch (thrown.getClass().getName()) {
            case "java.lang.IndexOutOfBoundsException": return "Index";
            case "java.util.NoSuchElementException": return "Element";
            case "java.lang.IllegalStateException": return "State";
            case "java.lang.IllegalArgumentException": return "Argument";
            default: return thrown.toString();
        }
    }

    private static Object argument(String word) {
        switch (word) {
            case "MIN": return Integer.MIN_VALUE;
            case "MAX": return Integer.MAX_VALUE;
            case "true": return true;
            case "false": return false;
            default: return Integer.valueOf(word);
        }
    }

    private static Method method(Class<?> type, String name) {
        Map<String, Method> methods = METHODS.computeIfAbsent(type, t -> new HashMap<>());
        if (methods.isEmpty()) {
            for (Method m : type.getMethods()) {
                if (m.getDeclaringClass() == type) {
                    methods.put(m.getName(), m);
                }
            }
        }
        return methods.get(name);
    }

    /** "12 x write 0 1" is twelve calls; "send 0 1" is a letter that is written and comes, where none waits. */
    static List<String> of(String line) {
        int times = 1;
        String call = line;
        int x = line.indexOf(" x ");
        if (x >= 0) {
            times = Integer.parseInt(line.substring(0, x));
            call = line.substring(x + 3);
        }
        List<String> calls = new ArrayList<>();
        for (int i = 0; i < times; i++) {
            if (call.startsWith("send ")) {
                calls.add("write" + call.substring(4));
                calls.add("come" + call.substring(4) + " 0");
            } else {
                calls.add(call);
            }
        }
        return calls;
    }
}
