import java.lang.reflect.InvocationTargetException;
import java.lang.reflect.Method;
import java.util.ArrayList;
import java.util.Arrays;
import java.util.Comparator;
import java.util.List;
import java.util.Random;

/** Random runs of calls, of which GossipTables and PlainModel must answer the same. */
public final class ModelTest {
    private static final int RUNS = 400;
    private static final int CALLS = 512;
    private static final List<String> DOING = List.of("add", "take", "write", "come", "come", "twice", "save", "fall",
        "join", "cut", "chance", "chance", "lose", "mode", "keep", "back", "sites");

    private final Random random;
    private final GossipTables real = new GossipTables();
    private final PlainModel model = new PlainModel();
    private final List<String> told = new ArrayList<>();
    private int sites = 3;

    private ModelTest(long seed) {
        random = new Random(seed);
    }

    public static void main(String[] args) throws Exception {
        List<Method> methods = methods();
        int wrong = 0;
        long calls = 0;
        for (int run = 0; run < RUNS && wrong < 5; run++) {
            ModelTest test = new ModelTest(run);
            if (!test.run(methods)) {
                wrong++;
                System.out.println("run " + run + ":");
                test.told.forEach(System.out::println);
            }
            calls += test.told.size();
        }
        System.out.println(calls + " random calls, " + wrong + " runs not as due");
        if (wrong != 0) {
            System.exit(1);
        }
    }

    /** In a fixed order: reflection promises none. */
    private static List<Method> methods() {
        List<Method> methods = new ArrayList<>();
        for (Method m : GossipTables.class.getDeclaredMethods()) {
            if (java.lang.reflect.Modifier.isPublic(m.getModifiers())) {
                methods.add(m);
            }
        }
        methods.sort(Comparator.comparing(Method::getName));
        return methods;
    }

    private boolean run(List<Method> methods) throws Exception {
        // Some runs are tame, so that sites stay and much comes; some try what can't be.
        int wild = random.nextInt(12);
        boolean rest = random.nextInt(3) == 0;
        if (random.nextInt(2) == 0 && !both(methodOf(methods, "sites"), new Object[] {2 + random.nextInt(4)})) {
            return false;
        }
        for (int i = told.size(); i < CALLS; i++) {
            Method m = methods.get(random.nextInt(methods.size()));
            if (random.nextInt(2) == 0) {
                m = methodOf(methods, DOING.get(random.nextInt(DOING.size())));
            }
            if (!isPassedOver(m.getName(), rest) && !both(m, arguments(m, wild))) {
                return false;
            }
        }
        return true;
    }

    private boolean isPassedOver(String name, boolean rest) {
        if (name.equals("sites") || name.equals("back")) {
            return rest || random.nextInt(12) != 0;
        }
        return (name.equals("fall") || name.equals("join")) && (rest || random.nextInt(3) != 0);
    }

    private static Method methodOf(List<Method> methods, String name) {
        return methods.stream().filter(m -> m.getName().equals(name)).findFirst().get();
    }

    private Object[] arguments(Method m, int wild) {
        Class<?>[] types = m.getParameterTypes();
        Object[] arguments = new Object[types.length];
        for (int i = 0; i < types.length; i++) {
            arguments[i] = types[i] == boolean.class ? (Object) (random.nextInt(3) == 0) : (Object) number(m.getName(), i, wild);
        }
        return arguments;
    }

    private int number(String name, int i, int wild) {
        int events = model.eventsNow();
        if (random.nextInt(100) < wild) {
            int[] odd = {-2, -1, sites, 120, 100, 5, 61, Integer.MAX_VALUE, Integer.MIN_VALUE, events};
            return odd[random.nextInt(odd.length)];
        }
        switch (name + i) {
            case "sites0": return 2 + random.nextInt(4);
            case "mode0": return random.nextInt(3);
            case "add1": case "named1": return random.nextInt(random.nextBoolean() ? 100 : 4);
            case "chance0": return random.nextInt(Integer.MAX_VALUE);
            case "chance1": return random.nextInt(random.nextInt(61) + 1);
            case "keep0": case "back0": return random.nextInt(2);
            case "come2": case "lose2": case "twice2": case "letter2": case "inLetter2": return random.nextInt(3);
            case "letter3": case "would2": case "named2": case "wide0": return random.nextInt(3);
            case "view2": case "came2": case "slowest0": return random.nextInt(2);
            case "gossip0": case "trace1": case "falling1": case "joining2": return random.nextInt(4);
            case "site1": return random.nextInt(8);
            case "event1": return random.nextInt(9);
            case "count0": return random.nextInt(14);
            case "part0": return random.nextInt(sites + 1) - 1;
            case "fewest0": return random.nextInt(7) - 1;
            case "sure1": return random.nextInt(sites + 1);
            case "way2": return random.nextInt(5) - 1;
            case "front1": case "chain1": case "only2": return random.nextInt(6) - 1;
            case "view1": case "log1": case "inLetter3": return random.nextInt(random.nextInt(12) + 1);
            case "trace0": return random.nextInt(34);
            case "take1": case "knows2": case "has1": case "event0": case "came1": case "way1": case "chain0":
            case "ahead0": case "ahead1": case "between0": case "between1": return random.nextInt(Math.max(1, events));
            default: return random.nextInt(sites);
        }
    }

    private boolean both(Method m, Object[] arguments) throws Exception {
        Object got = answer(m, real, arguments);
        Object due = answer(PlainModel.class.getMethod(m.getName(), m.getParameterTypes()), model, arguments);
        told.add(m.getName() + Arrays.toString(arguments) + " = " + got + (got.equals(due) ? "" : ", due is " + due));
        sites = model.sitesNow();
        return got.equals(due);
    }

    private static Object answer(Method m, Object on, Object[] arguments) throws Exception {
        try {
            return m.invoke(on, arguments);
        } catch (InvocationTargetException e) {
            return e.getCause().getClass().getName();
        }
    }
}
