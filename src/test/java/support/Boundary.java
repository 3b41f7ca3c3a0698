import java.io.IOException;
import java.nio.file.Files;
import java.nio.file.Path;
import java.util.ArrayList;
import java.util.HashMap;
import java.util.List;
import java.util.Map;

/**
 * Tests of sentences of the document that name a boundary case. Each is a run of calls on a
 * new object, told as lines: "add 0 99 = 1" is a call with the answer that is due,
 * "add 0 100 = Argument" one that is refused, of which it is also looked at whether it did
 * nothing; a line without "=" must only not be refused. PlainModel must answer as is due, too.
 */
final class Boundary {
    private static final Path DOCUMENT = Path.of("../shared/DOC.md");
    private static final List<String> REFUSALS = List.of("Index", "Element", "State", "Argument");
    private static final int MOST_CALLS = 512;
    /** A longer run is not looked at as a whole: too few calls would be left for that. */
    private static final int LOOKED_AT = 400;

    private static final Map<String, String> SECTIONS = new HashMap<>();
    private static final Map<String, boolean[]> QUOTED = new HashMap<>();

    private static List<String> lastRun;
    private static List<String> lastTold;
    private static boolean lastWithTrace;

    private Boundary() {
    }

    // ---- the sentences

    /** Whether these words stand in the document under this heading; they count as tested then. */
    private static void quote(String heading, String words) {
        String text = section(heading);
        int at = text.indexOf(words);
        Check.that(heading + " has the words: " + words, at >= 0);
        boolean[] quoted = QUOTED.computeIfAbsent(heading, h -> new boolean[text.length()]);
        for (; at >= 0; at = text.indexOf(words, at + 1)) {
            for (int i = at; i < at + words.length(); i++) {
                quoted[i] = true;
            }
        }
    }

    private static String section(String heading) {
        if (SECTIONS.isEmpty()) {
            readDocument();
        }
        return SECTIONS.getOrDefault(heading, "");
    }

    private static void readDocument() {
        try {
            for (String part : Files.readString(DOCUMENT).split("(?m)^## ")) {
                int end = part.indexOf('\n');
                String heading = end < 0 ? part : part.substring(0, end).replaceAll("(Promise \\d+):.*", "$1");
                String body = part.substring(end + 1).replaceAll("```(text)?", " ").replaceAll("(?s)^\\s*`[^`]*`: ", "");
                SECTIONS.put(heading, body.replaceAll("\\s+", " ").trim());
            }
        } catch (IOException e) {
            throw new IllegalStateException(e);
        }
    }

    /** The words of a section that no test quotes. */
    private static String notQuoted(String heading) {
        String text = section(heading);
        boolean[] quoted = QUOTED.getOrDefault(heading, new boolean[text.length()]);
        StringBuilder rest = new StringBuilder();
        for (int i = 0; i < text.length(); i++) {
            rest.append(quoted[i] ? ' ' : text.charAt(i));
        }
        return rest.toString().replaceAll("[ .;:,]+", " ").trim();
    }

    /** All that these promises say is said by tests. */
    static void promisesAreQuoted(int first, int last) {
        for (int promise = first; promise <= last; promise++) {
            String heading = "Promise " + promise;
            Check.due(heading + ", words without a test", "", () -> notQuoted(heading));
        }
    }

    /** No words of a section that name a limit are left without a test. */
    static void limitsAreQuoted(String heading) {
        String rest = notQuoted(heading);
        Check.that(heading + ", limits without a test: " + rest,
            !rest.isEmpty() && !rest.matches(".*(\\d|at most|at first|Exception|NONE|\\bnone\\b|CUT).*"));
    }

    // ---- the runs

    static void promise(int number, String sentence, String... lines) {
        test("Promise " + number, sentence, lines);
    }

    static void terms(String sentence, String... lines) {
        test("Terms", sentence, lines);
    }

    static void test(String heading, String sentence, String... lines) {
        quote(heading, sentence);
        String name = heading + ", \"" + sentence + "\"";
        GossipTables real = new GossipTables();
        PlainModel model = new PlainModel();
        List<String> all = new ArrayList<>();
        List<String> done = new ArrayList<>();
        for (String line : lines) {
            int is = line.indexOf(" = ");
            String due = is < 0 ? null : line.substring(is + 3);
            for (String call : Calls.of(is < 0 ? line : line.substring(0, is))) {
                all.add(call);
                boolean refused = look(name + ": call " + all.size() + ", " + call, call, due, real, model);
                if (refused) {
                    didNothing(name, done, call);
                } else if (Calls.isDoing(call)) {
                    done.add(call);
                }
            }
        }
        Check.that(name + ": at most 512 calls", all.size() <= MOST_CALLS);
        if (all.size() < LOOKED_AT) {
            alike(name + ": what tells changes nothing", done, all, true);
        }
    }

    /** Whether the call is one that must be refused. */
    private static boolean look(String what, String call, String due, GossipTables real, PlainModel model) {
        String got = Calls.answer(real, call);
        String second = Calls.answer(model, call);
        Check.due(what, due == null ? second : due, () -> got);
        Check.due(what + ", by the model", due == null ? got : due, () -> second);
        if (due == null) {
            Check.that(what + ": is not refused", got.matches("-?\\d+|true|false"));
        }
        return due != null && REFUSALS.contains(due);
    }

    private static void didNothing(String name, List<String> done, String call) {
        List<String> with = new ArrayList<>(done);
        with.add(call);
        alike(name + ": " + call + " does nothing", done, with, true);
    }

    private static void alike(String what, List<String> run, List<String> other, boolean withTrace) {
        List<String> told = toldAfter(run, withTrace);
        List<String> otherTold = Told.after(other, withTrace);
        String unlike = "";
        for (int i = 0; i < Math.max(told.size(), otherTold.size()) && unlike.isEmpty(); i++) {
            String one = i < told.size() ? told.get(i) : "nothing";
            String two = i < otherTold.size() ? otherTold.get(i) : "nothing";
            unlike = one.equals(two) ? "" : one + " or " + two;
        }
        String first = unlike;
        Check.due(what, "", () -> first);
    }

    /** One run is often looked at again and again: what it told is kept. */
    private static List<String> toldAfter(List<String> run, boolean withTrace) {
        if (!run.equals(lastRun) || withTrace != lastWithTrace) {
            lastTold = Told.after(run, withTrace);
            lastRun = new ArrayList<>(run);
            lastWithTrace = withTrace;
        }
        return lastTold;
    }

    /** Behind the one run all that can be told is as behind the other one. */
    static void alike(int promise, String sentence, Lines run, Lines other) {
        quote("Promise " + promise, sentence);
        alike("Promise " + promise + ", \"" + sentence + "\"", callsOf(run), callsOf(other), true);
    }

    /** Likewise, but for the trace. */
    static void alikeButTrace(int promise, String sentence, Lines run, Lines other) {
        quote("Promise " + promise, sentence);
        alike("Promise " + promise + ", \"" + sentence + "\"", callsOf(run), callsOf(other), false);
    }

    /** By chance() all comes to be as by the calls that its draws tell. */
    static void asByHand(String heading, String sentence, Lines start, int seed, int n) {
        quote(heading, sentence);
        String name = heading + ", \"" + sentence + "\": seed " + seed + ", " + n + " times";
        List<String> byChance = callsOf(start);
        List<String> byHand = new ArrayList<>(byChance);
        Draws draws = new Draws(seed, byHand);
        int came = draws.doTimes(n);
        String call = "chance " + seed + " " + n;
        GossipTables real = new GossipTables();
        byChance.forEach(each -> Calls.answer(real, each));
        Check.due(name + ": events", String.valueOf(came), () -> Calls.answer(real, call));
        byChance.add(call);
        alike(name, byChance, byHand, true);
    }

    private static List<String> callsOf(Lines lines) {
        List<String> calls = new ArrayList<>();
        for (String line : lines.all()) {
            calls.addAll(Calls.of(line));
        }
        return calls;
    }
}
