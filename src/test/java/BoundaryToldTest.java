/** The boundary cases of promises 29 to 41, sentence by sentence. */
public final class BoundaryToldTest {
    private static final String[] NO_NUMBERS = {"MIN", "-2", "-1"};

    public static void main(String[] args) {
        event();
        ahead();
        wide();
        came();
        way();
        slowest();
        chain();
        between();
        front();
        only();
        sure();
        part();
        trace();
        Boundary.promisesAreQuoted(29, 41);
        Check.end();
    }

    /** So many events at site 0 of which none is ahead of another one: it falls behind each. */
    private static Lines allConcurrent(int events) {
        Lines lines = new Lines();
        for (int i = 0; i < events; i++) {
            lines.and("add 0 7", "fall 0");
        }
        return lines;
    }

    private static void event() {
        String sentence = "Of an EVENT: 0 its SITE, 1 TIME, 2 whether it is an OUT (1, 0), 3 the MARK of the ELEMENT, 4 the NAME, 5"
            + " how many SITES HAVE it, 6 in how many LOGS it is, 7 HEIGHT, 8 how many EVENTS are CONCURRENT with it.";
        Boundary.promise(29, sentence, "event 0 0 = Index", "add 2 99", "event 0 0 = 2", "event 0 1 = 1", "event 0 2 = 0",
            "event 0 3 = 0", "event 0 4 = 99", "event 0 5 = 1", "event 0 6 = 1", "event 0 7 = 1", "event 0 8 = 0", "take 2 0",
            "event 1 0 = 2", "event 1 1 = 2", "event 1 2 = 1", "event 1 3 = 0", "event 1 4 = 99", "event 1 7 = 2", "event 1 8 = 0",
            "add 0 0", "event 2 4 = 0", "event 2 8 = 2", "event 0 8 = 1", "fall 2", "event 0 5 = 0", "event 0 6 = 0");
        Boundary.promise(29, sentence, "sites 5", "add 0 7", "send 0 1", "send 0 2", "send 0 3", "event 0 5 = 4", "event 0 6 = 4",
            "send 0 4", "event 0 5 = 5", "event 0 6 = 5", "send 1 0", "send 2 0", "send 3 0", "event 0 6 = 5", "send 4 0",
            "event 0 6 = 4", "event 0 5 = 5");
        Boundary.promise(29, sentence, "sites 5", "119 x add 4 7", "take 4 118", "event 119 0 = 4", "event 119 1 = 120",
            "event 119 2 = 1", "event 119 3 = 118", "event 119 7 = 120", "event 119 8 = 0", "event 120 0 = Index");
        Boundary.promise(29, sentence, allConcurrent(120).and("event 0 8 = 119", "event 64 8 = 119", "event 119 8 = 119",
            "event 119 7 = 1", "event 119 1 = 120", "event 119 5 = 0").all());
        Boundary.promise(29, "IndexOutOfBoundsException; IllegalArgumentException: another what.",
            Lines.of("add 0 7").each("event # 0", "Index", "-1", "1", "120", "MIN", "MAX").each("event # 9", "Index", "-1", "1")
                .each("event 0 #", "Argument", "-1", "9", "MIN", "MAX").and("event 0 8 = 0").all());
    }

    private static void ahead() {
        String sentence = "Whether an EVENT is AHEAD of another one.";
        Boundary.promise(30, sentence, "2 x add 0 7", "add 1 7", "ahead 0 1 = true", "ahead 1 0 = false", "ahead 0 0 = false",
            "ahead 0 2 = false", "ahead 2 0 = false", "send 0 1", "ahead 0 2 = false", "add 1 7", "ahead 0 3 = true",
            "ahead 1 3 = true", "ahead 2 3 = true", "ahead 3 3 = false");
        Boundary.promise(30, sentence, "120 x add 0 7", "ahead 0 119 = true", "ahead 118 119 = true", "ahead 119 119 = false",
            "ahead 119 0 = false", "ahead 119 120 = Index", "ahead 120 119 = Index");
        Boundary.promise(30, "IndexOutOfBoundsException.", Lines.of("ahead 0 0 = Index", "add 0 7")
            .each("ahead # 0", "Index", "-1", "1", "120", "MIN", "MAX").each("ahead 0 #", "Index", "-1", "1", "120", "MIN", "MAX")
            .all());
    }

    private static void wide() {
        String sentence = "How many couples of EVENTS are CONCURRENT (what 0), the HEIGHT of the highest one (1; 0: none), the first"
            + " EVENT that has it (2; NONE).";
        Boundary.promise(31, sentence, "wide 0 = 0", "wide 1 = 0", "wide 2 = -1", "add 0 7", "wide 0 = 0", "wide 1 = 1", "wide 2 = 0",
            "add 1 7", "wide 0 = 1", "wide 1 = 1", "wide 2 = 0", "add 2 7", "wide 0 = 3", "add 1 7", "wide 0 = 5", "wide 1 = 2",
            "wide 2 = 3", "add 0 7", "wide 1 = 2", "wide 2 = 3", "sites 3", "wide 0 = 0", "wide 1 = 0", "wide 2 = -1");
        Boundary.promise(31, sentence, "120 x add 0 7", "wide 0 = 0", "wide 1 = 120", "wide 2 = 119");
        Boundary.promise(31, sentence, allConcurrent(120).and("wide 0 = 7140", "wide 1 = 1", "wide 2 = 0").all());
        Boundary.promise(31, "IllegalArgumentException: another what.",
            Lines.of("add 0 7").each("wide #", "Argument", "-1", "3", "MIN", "MAX").all());
    }

    private static void came() {
        String sentence = "WHEN a SITE that HAS an EVENT came to HAVE it (what 0), BY whom (1). NONE: it HAS it not.";
        Boundary.promise(32, sentence, "add 0 7", "came 0 0 0 = 1", "came 0 0 1 = 0", "came 2 0 0 = -1", "came 2 0 1 = -1",
            "write 0 2", "came 2 0 0 = -1", "come 0 2 0", "came 2 0 0 = 3", "came 2 0 1 = 0", "fall 2", "came 2 0 0 = -1",
            "came 2 0 1 = -1");
        // Known, but it has it not.
        Boundary.promise(32, sentence, "add 0 7", "fall 0", "add 0 7", "came 0 0 0 = -1", "came 0 0 1 = -1", "came 0 1 0 = 3");
        Boundary.promise(32, sentence, "sites 5", "120 x add 4 7", "came 4 119 0 = 120", "came 4 119 1 = 4", "join 3 4",
            "came 3 0 0 = 121", "came 3 119 0 = 121", "came 3 119 1 = 4", "came 3 120 0 = Index");
        Boundary.promise(32, "IndexOutOfBoundsException; IllegalArgumentException: another what.",
            Lines.of("came 0 0 0 = Index", "add 0 7").each("came # 0 0", "Index", Lines.NO_SITES)
                .each("came 0 # 0", "Index", "-1", "1", "120", "MIN", "MAX").each("came 0 0 #", "Argument", "-1", "2", "MIN", "MAX")
                .each("came 1 0 #", "Argument", "-1", "2").and("came 3 0 2 = Index", "came 0 1 2 = Index", "came 2 0 1 = -1").all());
    }

    private static void way() {
        String sentence = "WAY of an EVENT to a SITE: how many SITES (k NONE), the k-th (0 the SITE itself); NONE: not so many, it"
            + " HAS it not.";
        Boundary.promise(33, sentence, Lines.of("add 0 7", "way 0 0 -1 = 1", "way 0 0 0 = 0", "way 1 0 0 = -1", "way 1 0 -1 = -1")
            .each("way 0 0 #", "-1", "1", "2", "-2", "MIN", "MAX").each("way 1 0 #", "-1", "1", "-2", "MIN", "MAX").all());
        Boundary.promise(33, sentence, Lines.of("sites 5", "add 2 7", "send 2 4", "send 4 0", "send 0 3", "send 3 1",
            "way 1 0 -1 = 5", "way 1 0 0 = 1", "way 1 0 1 = 3", "way 1 0 2 = 0", "way 1 0 3 = 4", "way 1 0 4 = 2")
            .each("way 1 0 #", "-1", "5", "6", "-2", "MIN", "MAX").and("way 3 0 -1 = 4", "way 3 0 4 = -1", "fall 3",
                "way 1 0 -1 = 2", "way 1 0 1 = 3", "way 1 0 2 = -1", "way 3 0 -1 = -1").all());
        // Round between two sites, with two sites and with five.
        Boundary.promise(33, sentence, "sites 2", "add 0 7", "send 0 1", "fall 0", "join 0 1", "way 0 0 -1 = 2", "way 0 0 1 = 1",
            "way 0 0 2 = -1", "way 1 0 -1 = 2", "way 1 0 1 = 0");
        Boundary.promise(33, sentence, "sites 5", "add 0 7", "send 0 1", "fall 0", "join 0 1", "way 0 0 -1 = 5", "way 0 0 4 = 0",
            "way 0 0 5 = -1", "way 1 0 4 = 1");
        Boundary.promise(33, "IndexOutOfBoundsException.", Lines.of("way 0 0 0 = Index", "add 0 7")
            .each("way # 0 0", "Index", Lines.NO_SITES).each("way 0 # 0", "Index", "-1", "1", "120", "MIN", "MAX").all());
    }

    private static void slowest() {
        String sentence = "Of EVENTS that all SITES HAVE the most STEPS from its coming till the last SITE came to HAVE it (WHEN, as"
            + " told now; what 0), the first EVENT of which it is so (1). NONE: there is none such.";
        Boundary.promise(34, sentence, "slowest 0 = -1", "slowest 1 = -1", "add 0 7", "slowest 0 = -1", "join 1 0", "slowest 1 = -1",
            "join 2 0", "slowest 0 = 2", "slowest 1 = 0", "fall 1", "slowest 0 = -1", "slowest 1 = -1", "join 1 2", "slowest 0 = 4");
        Boundary.promise(34, sentence, "sites 2", "add 0 7", "join 1 0", "slowest 0 = 1", "slowest 1 = 0", "add 0 7", "join 1 0",
            "slowest 0 = 1", "slowest 1 = 0", "add 0 7", "save 0", "join 1 0", "slowest 0 = 2", "slowest 1 = 2");
        Boundary.promise(34, sentence, "sites 2", "120 x add 0 7", "join 1 0", "slowest 0 = 120", "slowest 1 = 0");
        // The last of five sites; then of two, whatever a third one had ahead of sites().
        Boundary.promise(34, sentence, "sites 5", "add 0 7", "join 1 0", "join 2 0", "join 3 0", "slowest 0 = -1", "join 4 0",
            "slowest 0 = 4", "slowest 1 = 0", "sites 2", "add 0 7", "join 1 0", "slowest 0 = 1", "sites 4", "add 3 7", "join 0 3",
            "join 1 3", "join 2 3", "slowest 0 = 3");
        // As told now: what was saved has the step at which it came then.
        Boundary.promise(34, sentence, "sites 2", "add 0 7", "join 1 0", "save 1", "fall 0", "join 0 1", "slowest 0 = 4", "fall 1",
            "slowest 0 = 4", "save 0", "fall 0", "slowest 0 = 4");
        Boundary.promise(34, sentence, "add 0 7", "join 1 0", "save 1", "join 1 2 = 0", "join 2 0", "join 1 0", "slowest 0 = 5",
            "fall 1", "slowest 0 = 4");
        Boundary.promise(34, "IllegalArgumentException: another what.",
            Lines.of("add 0 7").each("slowest #", "Argument", "-1", "2", "MIN", "MAX").all());
    }

    private static void chain() {
        String sentence = "The k-th EVENT (0 on) of the longest row that ends with an EVENT (HEIGHT), of like long ones the first,"
            + " compared one by one; NONE: not so many.";
        Boundary.promise(35, sentence, Lines.of("add 0 7", "chain 0 0 = 0").each("chain 0 #", "-1", "1", "-1", "-2", "MIN", "MAX")
            .all());
        // Rows of three that end with 5: 0 4 5, 1 2 5, 3 4 5.
        Boundary.promise(35, sentence, "add 1 7", "2 x add 0 7", "add 2 7", "send 1 2", "add 2 7", "send 0 2", "add 2 7",
            "event 5 7 = 3", "chain 5 0 = 0", "chain 5 1 = 4", "chain 5 2 = 5", "chain 5 3 = -1", "chain 4 0 = 0", "chain 4 1 = 4",
            "chain 4 2 = -1", "chain 2 0 = 1", "chain 3 0 = 3", "chain 3 1 = -1");
        // The longest row, though another one begins with a lower event.
        Boundary.promise(35, sentence, "add 1 7", "2 x add 0 7", "send 1 0", "add 0 7", "chain 3 0 = 1", "chain 3 1 = 2",
            "chain 3 2 = 3", "chain 3 3 = -1");
        Boundary.promise(35, sentence, "120 x add 0 7", "chain 119 0 = 0", "chain 119 63 = 63", "chain 119 64 = 64",
            "chain 119 119 = 119", "chain 119 120 = -1", "chain 118 119 = -1", "chain 0 0 = 0", "chain 0 1 = -1",
            "chain 120 0 = Index");
        Boundary.promise(35, "IndexOutOfBoundsException.", Lines.of("chain 0 0 = Index", "chain 0 -1 = Index", "add 0 7")
            .each("chain # 0", "Index", "-1", "1", "120", "MIN", "MAX").all());
    }

    private static void between() {
        String sentence = "How many EVENTS the one is AHEAD of, that are AHEAD of the other one.";
        Boundary.promise(36, sentence, "3 x add 0 7", "add 1 7", "between 0 0 = 0", "between 0 1 = 0", "between 0 2 = 1",
            "between 2 0 = 0", "between 0 3 = 0", "between 3 3 = 0", "send 0 1", "add 1 7", "between 0 4 = 2", "between 3 4 = 0",
            "between 1 4 = 1");
        Boundary.promise(36, sentence, "120 x add 0 7", "between 0 119 = 118", "between 118 119 = 0", "between 117 119 = 1",
            "between 119 0 = 0", "between 0 120 = Index");
        Boundary.promise(36, "IndexOutOfBoundsException.", Lines.of("between 0 0 = Index", "add 0 7")
            .each("between # 0", "Index", "-1", "1", "120", "MIN", "MAX").each("between 0 #", "Index", "-1", "1", "120", "MIN", "MAX")
            .all());
    }

    private static void front() {
        String sentence = "EVENTS that a SITE HAS and that are AHEAD of none that it HAS: how many (k NONE), the k-th (0 on). NONE:"
            + " there is none such.";
        Boundary.promise(37, sentence, Lines.of("front 0 -1 = 0", "front 0 0 = -1", "add 0 7", "front 0 -1 = 1", "front 0 0 = 0",
            "front 0 1 = -1", "add 0 7", "front 0 -1 = 1", "front 0 0 = 1", "add 1 7", "send 1 0", "front 0 -1 = 2", "front 0 0 = 1",
            "front 0 1 = 2").each("front 0 #", "-1", "2", "3", "-2", "MIN", "MAX").and("front 2 -1 = 0", "front 2 0 = -1").all());
        // Ahead of one that another site has, not this one.
        Boundary.promise(37, sentence, "add 0 7", "send 0 1", "add 1 7", "front 0 -1 = 1", "front 0 0 = 0", "front 1 0 = 1");
        Boundary.promise(37, sentence, "120 x add 0 7", "front 0 -1 = 1", "front 0 0 = 119");
        // Sixty of which none is ahead of another one, all at site 1; then one behind them all.
        Lines sixty = new Lines();
        for (int i = 0; i < 60; i++) {
            sixty.and("add 0 7", "send 0 1", "fall 0");
        }
        Boundary.promise(37, sentence, sixty.and("front 1 -1 = 60", "front 1 0 = 0", "front 1 59 = 59", "front 1 60 = -1",
            "front 0 -1 = 0", "add 1 7", "front 1 -1 = 1", "front 1 0 = 60").all());
        Boundary.promise(37, "IndexOutOfBoundsException.", Lines.of("add 0 7").each("front # 0", "Index", Lines.NO_SITES)
            .each("front # -1", "Index", Lines.NO_SITES).and("front 2 -1 = 0").all());
    }

    private static void only() {
        String sentence = "The k-th ELEMENT (0 on; its MARK) that is in the VIEW of a SITE, not in that of another one. NONE.";
        Boundary.promise(38, sentence, Lines.of("only 0 1 0 = -1", "add 0 7", "add 1 7", "add 0 7", "only 0 1 0 = 0", "only 0 1 1 = 2",
            "only 1 0 0 = 1", "only 1 0 1 = -1").each("only 0 1 #", "-1", "2", "MAX").each("only 0 1 #", "-1", NO_NUMBERS)
            .and("send 0 1", "only 0 1 0 = -1", "only 1 0 0 = 1", "take 1 2", "only 0 1 0 = 2").all());
        Boundary.promise(38, sentence, "120 x add 2 7", "only 2 0 0 = 0", "only 2 0 119 = 119", "only 2 0 120 = -1", "only 0 2 0 = -1");
        Boundary.promise(38, "IndexOutOfBoundsException (both may not be one).",
            Lines.of("add 0 7").each("only # 0", "Index", Lines.NO_COUPLES).each("only # -1", "Index", Lines.NO_COUPLES)
                .and("only 0 0 0 = Index", "only 2 0 0 = -1").all());
    }

    private static void sure() {
        String sentence = "How many EVENTS that a SITE HAS are by its TABLE KNOWN to m SITES or more (m 0 .. n).";
        Boundary.promise(39, sentence, "sure 0 0 = 0", "sure 0 3 = 0", "add 0 7", "sure 0 0 = 1", "sure 0 1 = 1", "sure 0 2 = 0",
            "sure 0 3 = 0", "send 0 1", "sure 1 2 = 1", "sure 1 3 = 0", "sure 0 2 = 0", "send 1 2", "sure 2 3 = 1", "sure 1 3 = 0",
            "sure 2 0 = 1");
        Boundary.promise(39, sentence, "sites 5", "120 x add 0 7", "send 0 1", "send 1 2", "send 2 3", "send 3 4", "sure 4 5 = 120",
            "sure 4 0 = 120", "sure 3 4 = 120", "sure 3 5 = 0", "sure 0 1 = 120", "sure 0 2 = 0");
        // Only those that it has, though its table says more.
        Boundary.promise(39, sentence, "add 0 7", "fall 0", "add 0 7", "sure 0 0 = 1", "sure 0 1 = 1");
        for (int n = 2; n <= 5; n++) {
            Boundary.promise(39, "IndexOutOfBoundsException; IllegalArgumentException.",
                Lines.of("sites " + n, "add 0 7", "sure 0 " + n + " = 0", "sure " + (n - 1) + " 0 = 0")
                    .each("sure 0 #", "Argument", "-1", String.valueOf(n + 1), "MIN", "MAX")
                    .each("sure # 0", "Index", "-1", String.valueOf(n), "MIN", "MAX").and("sure " + n + " -1 = Index").all());
        }
    }

    private static void part() {
        String sentence = "How many PARTS there are (site NONE), SITES in the PART of a SITE, as bits.";
        int[] all = {0, 0, 3, 7, 15, 31};
        for (int n = 2; n <= 5; n++) {
            Lines lines = Lines.of("sites " + n, "part -1 = 1", "part 0 = " + all[n], "part " + (n - 1) + " = " + all[n]);
            for (int site = 0; site < n; site++) {
                for (int other = site + 1; other < n; other++) {
                    lines.and("cut " + site + " " + other + " true");
                }
                // This site is alone now, and those ahead of it.
                lines.and("part " + site + " = " + (1 << site), "part -1 = " + Math.min(site + 2, n));
            }
            Boundary.promise(40, sentence, lines.all());
        }
        Boundary.promise(40, "IndexOutOfBoundsException.", Lines.of("cut 0 1 true").each("part #", "Index", "-2", "3", "MIN", "MAX")
            .and("part 2 = 7", "sites 5", "part 5 = Index", "part 4 = 31", "sites 2", "part 2 = Index", "part 1 = 3").all());
    }

    private static void trace() {
        String sentence = "Of the k-th latest (0 on) of THE TRACE: STEP (what 0), what (1), the SITE (2), what it answered (3).";
        Boundary.promise(41, sentence, "add 2 7", "trace 0 0 = 1", "trace 0 1 = 0", "trace 0 2 = 2", "trace 0 3 = 0", "write 1 2",
            "trace 0 0 = 2", "trace 0 1 = 2", "trace 0 2 = 1", "trace 0 3 = 0", "trace 1 0 = 1", "trace 1 2 = 2");
        Boundary.promise(41, sentence, "sites 5", "120 x add 4 7", "write 4 0", "trace 0 3 = 120", "trace 1 3 = 119",
            "trace 31 0 = 90", "trace 31 3 = 89", "trace 32 0 = Element", "trace 0 2 = 4");
        // By one chance() of 60 times only the latest 32 steps stay.
        Boundary.promise(41, sentence, "40 x add 0 7", "chance 9 60", "trace 31 3", "trace 32 3 = Element");
        String refused = "NoSuchElementException: there is none such; IllegalArgumentException: another what.";
        Boundary.promise(41, refused, "trace 0 0 = Element", "trace 0 4 = Element", "trace -1 0 = Element", "31 x save 0",
            "trace 30 0 = 1", "trace 31 0 = Element", "save 0", "trace 31 0 = 1", "trace 32 0 = Element", "save 0",
            "trace 31 0 = 2", "trace 32 0 = Element", "trace -1 0 = Element", "trace MIN 0 = Element", "trace MAX 0 = Element",
            "trace 32 4 = Element", "trace 31 4 = Argument", "trace 0 4 = Argument", "trace 0 -1 = Argument", "trace 0 MIN = Argument",
            "trace 0 MAX = Argument", "trace -1 -1 = Element");
    }
}
