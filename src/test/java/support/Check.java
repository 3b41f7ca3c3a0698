/** Counts and prints the answers that are not as due; ends a test. */
final class Check {
    /** A call of the class under test. */
    interface Call {
        Object answer();
    }

    private static int wrong = 0;
    private static int made = 0;

    private Check() {
    }

    static void due(String what, Object want, Call call) {
        Object got = answerOf(call);
        made++;
        if (!got.equals(want)) {
            wrong++;
            System.out.println(what + ": answered " + got + ", due is " + want);
        }
    }

    /** The answer, or the name of what the call threw. */
    static Object answerOf(Call call) {
        try {
            return call.answer();
        } catch (RuntimeException e) {
            return e.getClass().getSimpleName();
        }
    }

    static void that(String what, boolean holds) {
        due(what, true, () -> holds);
    }

    /** A letter is written, and comes at once. */
    static void send(GossipTables g, int from, int to) {
        g.write(from, to);
        g.come(from, to, g.waiting(from, to) - 1);
    }

    static void end() {
        System.out.println(made + " answers looked at, " + wrong + " not as due");
        if (wrong != 0) {
            System.exit(1);
        }
    }
}
