/** The boundary cases of promises 13 to 19, sentence by sentence. */
public final class BoundarySavedTest {
    public static void main(String[] args) {
        save();
        fall();
        join();
        chanceNumbers();
        chanceKinds();
        chanceIn();
        chanceOut();
        chanceOther();
        chanceLetters();
        chanceThatCannotBe();
        keep();
        back();
        cut();
        Boundary.promisesAreQuoted(13, 19);
        Check.end();
    }

    private static void save() {
        Boundary.promise(13, "A SITE saves: how many EVENTS it HAS.", "save 0 = 0", "add 0 7", "save 0 = 1", "save 1 = 0",
            "take 0 0", "save 0 = 2", "fall 0 = 0", "site 0 3 = 2");
        Boundary.promise(13, "A SITE saves: how many EVENTS it HAS.", "120 x add 0 7", "send 0 1", "save 1 = 120", "fall 1 = 0",
            "site 1 3 = 120", "site 1 1 = 120", "log 1 119 = 119", "view 1 119 0 = 119");
        // Saved anew with nothing, all that was saved ahead of that is gone.
        Boundary.promise(13, "A SITE saves: how many EVENTS it HAS.", "add 0 7", "save 0 = 1", "join 0 1 = 0", "save 0 = 0",
            "fall 0 = 0", "site 0 3 = 0");
        Boundary.promise(13, "IndexOutOfBoundsException.", "add 0 7", "save 3 = Index", "save -1 = Index", "save MIN = Index",
            "save MAX = Index", "save 2 = 0", "sites 5", "save 5 = Index", "save 4 = 0", "sites 2", "save 2 = Index", "save 1 = 0");
    }

    private static void fall() {
        String sentence = "A SITE FALLS: how many EVENTS it HAD that it HAS not then.";
        Boundary.promise(14, sentence, "fall 0 = 0", "add 0 7", "fall 0 = 1", "fall 0 = 0", "add 0 7", "save 0", "fall 0 = 0",
            "add 0 7", "fall 0 = 1", "site 0 3 = 1");
        Boundary.promise(14, sentence, "119 x add 0 7", "save 0 = 119", "add 0 7", "fall 0 = 1", "site 0 3 = 119", "site 0 0 = 120",
            "add 0 7 = State", "join 0 1 = 0", "fall 0 = 0", "site 0 3 = 119");
        Boundary.promise(14, sentence, "120 x add 0 7", "fall 0 = 120", "site 0 3 = 0", "site 0 2 = 0", "site 0 1 = 0");
        // It may come to have some that it had not, and not to have others.
        Boundary.promise(14, sentence, "add 0 7", "save 0", "2 x add 1 7", "join 0 1 = 2", "fall 0 = 2", "has 0 0 = true",
            "has 0 1 = false");
        Boundary.promise(14, "IndexOutOfBoundsException.", "add 0 7", "fall 3 = Index", "fall -1 = Index", "fall MIN = Index",
            "fall MAX = Index", "fall 2 = 0", "sites 5", "add 4 7", "fall 5 = Index", "fall 4 = 1", "sites 2", "fall 2 = Index");
    }

    private static void join() {
        String sentence = "A SITE JOINS by another one: how many EVENTS it HAS then.";
        Boundary.promise(15, sentence, "join 0 1 = 0", "add 0 7", "join 1 0 = 1", "join 1 0 = 1", "join 0 2 = 0", "has 0 0 = false",
            "join 0 1 = 1", "has 0 0 = true");
        Boundary.promise(15, sentence, "sites 5", "120 x add 4 7", "join 0 4 = 120", "join 3 0 = 120", "site 3 3 = 120",
            "join 4 1 = 0", "site 4 0 = 120", "table 4 4 4 = 120", "site 4 3 = 0");
        // A link that is cut, and letters that wait, are as they were.
        Boundary.promise(15, sentence, "add 0 7", "write 0 1", "cut 0 1 true", "join 1 0 = 1", "waiting 0 1 = 1", "count 13 = 1",
            "letter 0 1 0 2 = 1");
        Boundary.promise(15, "IndexOutOfBoundsException.", "add 0 7", "join 0 0 = Index", "join 3 0 = Index", "join 0 3 = Index",
            "join -1 0 = Index", "join 0 -1 = Index", "join 3 3 = Index", "join MIN 0 = Index", "join 0 MIN = Index",
            "join MAX 0 = Index", "join 0 MAX = Index", "join 2 0 = 1", "sites 2", "join 1 2 = Index", "join 2 1 = Index",
            "join 1 0 = 0");
    }

    // ---- chance

    private static void chanceNumbers() {
        String sentence = "n times (0 .. 60) by the seed (0 and on):";
        Lines start = Lines.of("sites 4", "add 3 7");
        for (int n : new int[] {0, 1, 59, 60}) {
            for (int seed : new int[] {0, 1, Integer.MAX_VALUE - 1, Integer.MAX_VALUE}) {
                Boundary.asByHand("Promise 16", sentence, start, seed, n);
            }
        }
        Boundary.promise(16, sentence, "chance 0 0 = 0", "count 12 = 0", "chance MAX 0 = 0", "count 12 = 0", "chance 0 60",
            "chance MAX 60");
        // Each call begins with its seed.
        Boundary.alike(16, sentence, Lines.of("chance 77 60", "sites 3", "chance 5 9"),
            Lines.of("sites 3", "chance 5 9"));
        Boundary.promise(16, "IllegalArgumentException.", "add 0 7", "chance 0 61 = Argument", "chance 0 -1 = Argument",
            "chance 0 MIN = Argument", "chance 0 MAX = Argument", "chance -1 0 = Argument", "chance -1 1 = Argument",
            "chance MIN 60 = Argument", "chance -1 61 = Argument", "count 12 = 1");
    }

    private static void chanceKinds() {
        String sentence = "a DRAW of 8, then of SITES (the first SITE):";
        for (int n = 2; n <= 5; n++) {
            Lines start = startWithAll(n);
            for (int kind = 0; kind < 8; kind++) {
                for (int site : new int[] {0, n - 1}) {
                    Boundary.asByHand("Promise 16", sentence, start, Draws.seedOf(n, kind, site, -1), 1);
                }
            }
        }
    }

    /** Each site has three elements, each couple of sites two letters that wait. */
    private static Lines startWithAll(int n) {
        Lines lines = Lines.of("sites " + n);
        for (int site = 0; site < n; site++) {
            lines.and("3 x add " + site + " 7");
        }
        for (int site = 0; site < n; site++) {
            for (int other = 0; other < n; other++) {
                if (site != other) {
                    lines.and("2 x write " + site + " " + other);
                }
            }
        }
        return lines;
    }

    private static void chanceIn() {
        String sentence = "0, 1: an IN of a DRAW of 100;";
        for (int kind = 0; kind <= 1; kind++) {
            for (int name : new int[] {0, 1, 98, 99}) {
                int seed = Draws.seedOf(3, kind, 2, 100, name);
                Boundary.promise(16, sentence, "chance " + seed + " 1 = 1", "event 0 0 = 2", "event 0 2 = 0", "event 0 4 = " + name,
                    "trace 0 1 = 0", "trace 0 2 = 2", "trace 0 3 = 0", "count 12 = 1");
            }
        }
    }

    private static void chanceOut() {
        String sentence = "2: an OUT of the ELEMENT of its VIEW, by MARKS, at a DRAW of how many there are (none: nothing, no"
            + " DRAW);";
        // Marks 1, 2, 4 at site 0 in this order, though 1 came to it last.
        String[] three = {"add 2 7", "add 1 7", "add 0 7", "add 2 7", "add 0 7", "send 1 0"};
        int[] marks = {1, 2, 4};
        for (int at = 0; at < 3; at++) {
            Boundary.promise(16, sentence, Lines.of(three).and("chance " + Draws.seedOf(3, 2, 0, 3, at) + " 1 = 1",
                "event 5 2 = 1", "event 5 0 = 0", "event 5 3 = " + marks[at], "trace 0 1 = 1", "trace 0 3 = 5",
                "count 2 = 6").all());
        }
        int seed = Draws.seedOf(3, 2, 0, -1);
        Boundary.promise(16, sentence, "add 0 7", "chance " + seed + " 1 = 1", "event 1 3 = 0", "site 0 1 = 0");
        Boundary.promise(16, sentence, "add 1 7", "chance " + seed + " 1 = 0", "count 2 = 1", "count 12 = 1");
        Boundary.promise(16, sentence, "119 x add 0 7", "chance " + Draws.seedOf(3, 2, 0, 119, 118) + " 1 = 1", "event 119 3 = 118");
        Boundary.promise(16, sentence, "119 x add 0 7", "chance " + Draws.seedOf(3, 2, 0, 119, 0) + " 1 = 1", "event 119 3 = 0");
        // Without an element there is no draw: what comes next shows that.
        for (int i = 0; i < 4; i++) {
            int next = Draws.seedOfNothingThenIn(i);
            Boundary.asByHand("Promise 16", sentence, new Lines(), next, 2);
            Boundary.promise(16, sentence, "chance " + next + " 2 = 1", "count 12 = 1");
        }
    }

    private static void chanceOther() {
        String sentence = "else a DRAW of SITES (the other one; if it is the first, the next one, round):";
        for (int n = 2; n <= 5; n++) {
            for (int first = 0; first < n; first++) {
                for (int drawn = 0; drawn < n; drawn++) {
                    int other = drawn != first ? drawn : first + 1 < n ? first + 1 : 0;
                    Boundary.promise(16, sentence, "sites " + n, "chance " + Draws.seedOf(n, 3, first, n, drawn) + " 1 = 0",
                        "waiting " + first + " " + other + " = 1", "count 3 = 1", "trace 0 2 = " + first);
                }
            }
        }
    }

    private static void chanceLetters() {
        String sentence = "3, 4, 5: a LETTER is written, 6, 7: the LETTER that waits there at a DRAW of how many wait COMES (none:"
            + " nothing, no DRAW);";
        for (int kind = 3; kind <= 5; kind++) {
            int seed = Draws.seedOf(3, kind, 2, 3, 0);
            Boundary.promise(16, sentence, "add 2 7", "write 2 0 = 1", "chance " + seed + " 1 = 0", "waiting 2 0 = 2",
                "letter 2 0 1 0 = 1", "trace 0 1 = 2", "trace 0 2 = 2", "trace 0 3 = 1", "count 4 = 2");
        }
        for (int kind = 6; kind <= 7; kind++) {
            int seed = Draws.seedOf(3, kind, 2, 3, 0);
            // None waits there; one waits; letters the other way do not matter.
            Boundary.promise(16, sentence, "add 2 7", "write 0 2", "chance " + seed + " 1 = 0", "count 12 = 2", "waiting 0 2 = 1",
                "write 2 0", "chance " + seed + " 1 = 0", "waiting 2 0 = 0", "has 0 0 = true", "trace 0 1 = 3", "trace 0 2 = 2",
                "trace 0 3 = 1", "count 12 = 4", "chance " + seed + " 1 = 0", "count 12 = 4");
            Boundary.asByHand("Promise 16", sentence, Lines.of("add 2 7"), seed, 60);
            // Of 12 that wait, with 0 to 11 events, the one at the draw.
            for (int at : new int[] {0, 5, 11}) {
                Lines lines = new Lines();
                for (int events = 0; events < 12; events++) {
                    lines.and("write 2 0 = " + events, "add 2 7");
                }
                Boundary.promise(16, sentence, lines.and("chance " + Draws.seedOf(3, kind, 2, 3, 0, 12, at) + " 1 = 0",
                    "trace 0 3 = " + at, "waiting 2 0 = 11").all());
            }
        }
    }

    private static void chanceThatCannotBe() {
        String sentence = "what can't be does nothing (the DRAWS told so far are made): how many EVENTS came.";
        Lines full = Lines.of("118 x add 0 7", "add 1 7");
        Lines fullRows = Lines.of("sites 2", "add 0 7", "12 x write 0 1", "12 x write 1 0");
        Lines allCut = Lines.of("sites 2", "add 0 7", "3 x write 0 1", "3 x write 1 0", "cut 0 1 true");
        for (int seed = 0; seed < 12; seed++) {
            Boundary.asByHand("Promise 16", sentence, full, seed, 25);
            Boundary.asByHand("Promise 16", sentence, fullRows, seed, 25);
            Boundary.asByHand("Promise 16", sentence, allCut, seed, 25);
        }
        int in = Draws.seedOf(3, 0, 0, -1);
        int out = Draws.seedOf(3, 2, 0, -1);
        Boundary.promise(16, sentence, "119 x add 0 7", "chance " + in + " 1 = 1", "chance " + in + " 1 = 0",
            "chance " + out + " 1 = 0", "count 2 = 120", "count 12 = 120");
        Boundary.promise(16, sentence, "119 x add 0 7", "chance " + out + " 1 = 1", "chance " + out + " 1 = 0", "site 0 1 = 118",
            "count 12 = 120");
        int write = Draws.seedOf(3, 4, 0, 3, 1);
        int come = Draws.seedOf(3, 6, 0, 3, 1);
        Boundary.promise(16, sentence, "11 x write 0 1", "chance " + write + " 1 = 0", "waiting 0 1 = 12",
            "chance " + write + " 1 = 0", "waiting 0 1 = 12", "count 12 = 12", "cut 1 0 true", "chance " + come + " 1 = 0",
            "waiting 0 1 = 12", "count 12 = 13", "lose 0 1 0 = 11", "chance " + write + " 1 = 0", "waiting 0 1 = 11",
            "cut 0 1 false", "chance " + come + " 1 = 0", "waiting 0 1 = 10", "chance " + write + " 1 = 0", "waiting 0 1 = 11");
        // Both INS and OUTS count as events that came.
        Boundary.promise(16, sentence, "add 0 7", "chance " + out + " 1 = 1", "chance " + in + " 1 = 1", "chance " + write + " 1 = 0",
            "chance " + come + " 1 = 0", "count 2 = 3");
    }

    // ---- images and links

    private static void keep() {
        String sentence = "IMAGE k (0, 1) of all (SITES, EVENTS, LETTERS, SAVED, MODE) is kept: how many EVENTS.";
        Boundary.promise(17, sentence, "keep 0 = 0", "add 0 7", "keep 1 = 1", "119 x add 1 7", "keep 0 = 120", "count 12 = 120",
            "back 1 = 1", "count 2 = 1", "back 0 = 120", "event 119 0 = 1", "sites 2", "keep 0 = 0", "back 0 = 0", "count 0 = 2",
            "back 1 = 1", "count 0 = 3");
        // Both images are there side by side, and what comes later changes none.
        String[] start = {"sites 5", "mode 1", "add 4 7", "save 4", "write 4 0", "keep 1"};
        String[] later = {"add 0 7", "come 4 0 0", "fall 4", "mode 2", "keep 0"};
        Boundary.alike(17, sentence, Lines.of(start).and(later).and("chance 3 60", "sites 2", "back 1"),
            Lines.of(start).and(later).and("back 1"));
        Boundary.promise(17, "IllegalArgumentException.", "add 0 7", "keep 2 = Argument", "keep -1 = Argument",
            "keep MIN = Argument", "keep MAX = Argument", "back 0 = Element", "back 1 = Element", "keep 0 = 1", "add 0 7",
            "keep 2 = Argument", "keep -1 = Argument", "back 1 = Element", "back 0 = 1");
    }

    private static void back() {
        String sentence = "Back to IMAGE k: how many EVENTS.";
        String[] small = {"sites 2", "mode 2", "add 1 7", "take 1 0", "write 1 0", "twice 1 0 0", "come 1 0 0", "save 1", "add 1 9",
            "cut 0 1 true"};
        String[] large = {"sites 5", "60 x add 4 99", "4 x write 4 3", "come 4 3 1", "60 x add 3 5", "save 3", "send 3 2", "fall 4",
            "join 1 3", "cut 0 4 true", "cut 2 3 true"};
        // All have all that came, by times, steps and heights that the others have not.
        String[] mixed = {"sites 4", "save 0", "save 1", "add 2 5", "add 0 6", "send 2 0", "send 0 1", "add 1 8", "send 1 3",
            "take 3 0", "join 0 3", "join 2 3", "join 1 3", "write 3 2"};
        String[] none = {"mode 1", "sites 3"};
        for (String[] kept : new String[][] {small, large, mixed, none}) {
            for (String[] since : new String[][] {small, large, mixed, none, {"fall 1", "save 0"}, {"chance 8 60"}}) {
                Lines there = Lines.of(kept).and("keep 1").and(since).and("back 1");
                Boundary.alikeButTrace(18, sentence, there, Lines.of(kept).and("keep 1"));
                Boundary.alike(18, sentence, there, Lines.of(kept).and("keep 1", "back 1"));
            }
        }
        Boundary.promise(18, sentence, "keep 0 = 0", "120 x add 0 7", "back 0 = 0", "count 2 = 0", "keep 1 = 0", "add 2 7 = 0",
            "keep 0 = 1", "back 1 = 0", "back 0 = 1", "back 0 = 1", "event 0 0 = 2");
        // What each event was, though others had its number since; a letter goes on from the site that wrote it.
        Boundary.promise(18, sentence, Lines.of(mixed).and("write 3 0", "keep 0 = 4", "sites 5", "9 x add 4 7", "write 3 0", "back 0 = 4",
            "event 2 1 = 1", "event 3 7 = 3", "ahead 2 3 = true", "ahead 0 1 = false", "event 1 8 = 1", "slowest 0 = 10",
            "slowest 1 = 1", "fall 0", "come 3 0 0 = 2", "came 0 3 1 = 3", "table 0 3 2 = 1").all());
        String refused = "NoSuchElementException: none was kept; ahead of that IllegalArgumentException.";
        Boundary.promise(18, refused, "add 0 7", "back 0 = Element", "back 1 = Element", "back 2 = Argument", "back -1 = Argument",
            "back MIN = Argument", "back MAX = Argument", "keep 1 = 1", "add 0 7", "back 0 = Element", "back 2 = Argument",
            "back -1 = Argument", "trace 0 0 = 2", "back 1 = 1", "back 0 = Element", "keep 0 = 1", "back 0 = 1");
    }

    private static void cut() {
        String sentence = "A LINK is CUT, or not any more: whether that is another.";
        Boundary.promise(19, sentence, "cut 0 1 false = false", "count 12 = 0", "cut 0 1 true = true", "cut 0 1 true = false",
            "cut 1 0 true = false", "count 13 = 1", "count 12 = 1", "cut 1 0 false = true", "cut 0 1 false = false",
            "count 13 = 0", "count 12 = 2");
        Lines all = Lines.of("sites 5");
        int number = 0;
        for (int site = 0; site < 5; site++) {
            for (int other = site + 1; other < 5; other++) {
                number++;
                all.and("cut " + other + " " + site + " true = true", "cut " + site + " " + other + " true = false",
                    "count 13 = " + number);
            }
        }
        all.and("part -1 = 5", "sites 5", "count 13 = 0", "cut 4 3 false = false");
        Boundary.promise(19, sentence, all.all());
        String refused = "IndexOutOfBoundsException (both may not be one).";
        Boundary.promise(19, refused, "cut 0 1 true", "cut 0 0 true = Index", "cut 2 2 false = Index", "cut 3 0 true = Index",
            "cut 0 3 true = Index", "cut -1 0 true = Index", "cut 0 -1 true = Index", "cut MIN 0 true = Index",
            "cut 0 MAX false = Index", "cut 3 3 true = Index", "cut 2 1 true = true", "sites 2", "cut 1 2 true = Index",
            "cut 0 1 true = true");
    }
}
