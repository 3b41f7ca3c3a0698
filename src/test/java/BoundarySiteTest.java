/** The boundary cases of promises 20 to 28, sentence by sentence. */
public final class BoundarySiteTest {
    private static final String[] NO_WHATS = {"-1", "MIN", "MAX"};

    public static void main(String[] args) {
        view();
        named();
        log();
        table();
        knows();
        has();
        siteNumbers();
        siteOverstated();
        siteRefused();
        unlike();
        would();
        Boundary.promisesAreQuoted(20, 28);
        Check.end();
    }

    private static void view() {
        String sentence = "ELEMENT k (0 on, by MARKS) of a SITE's VIEW: its MARK (what 0), its NAME (1).";
        Boundary.promise(20, sentence, "view 0 0 0 = Element", "add 1 99", "add 0 0", "send 1 0", "view 0 0 0 = 0",
            "view 0 0 1 = 99", "view 0 1 0 = 1", "view 0 1 1 = 0", "view 0 2 0 = Element", "take 0 0", "view 0 0 0 = 1",
            "view 0 1 0 = Element", "take 0 1", "view 0 0 0 = Element");
        Boundary.promise(20, sentence, "119 x add 0 7", "add 0 99", "view 0 0 0 = 0", "view 0 63 0 = 63", "view 0 64 0 = 64",
            "view 0 119 0 = 119", "view 0 119 1 = 99", "view 0 120 0 = Element");
        Boundary.promise(20, "IndexOutOfBoundsException; NoSuchElementException; IllegalArgumentException: another what.",
            Lines.of("add 0 7", "add 2 7").each("view # 0 0", "Index", Lines.NO_SITES).each("view # 1 2", "Index", Lines.NO_SITES)
                .each("view 0 # 0", "Element", "-1", "1", "MIN", "MAX").each("view 0 # 2", "Element", "-1", "1", "MIN", "MAX")
                .each("view 1 # 0", "Element", "0", "-1").each("view 0 0 #", "Argument", NO_WHATS)
                .and("view 0 0 2 = Argument", "view 0 0 1 = 7", "view 2 0 0 = 1").all());
    }

    private static void named() {
        String sentence = "Of ELEMENTS of a NAME in a SITE's VIEW: how many (what 0), the least MARK (1; NONE), the greatest (2;"
            + " NONE).";
        Boundary.promise(21, sentence, "named 0 0 0 = 0", "named 0 0 1 = -1", "named 0 0 2 = -1", "named 0 99 0 = 0",
            "named 0 99 1 = -1", "named 0 99 2 = -1", "add 0 99", "named 0 99 0 = 1", "named 0 99 1 = 0", "named 0 99 2 = 0",
            "named 0 98 0 = 0", "named 1 99 0 = 0", "take 0 0", "named 0 99 0 = 0", "named 0 99 1 = -1", "named 0 99 2 = -1");
        Boundary.promise(21, sentence, "add 0 0", "118 x add 0 5", "add 0 0", "named 0 0 0 = 2", "named 0 0 1 = 0",
            "named 0 0 2 = 119", "named 0 5 0 = 118", "named 0 5 1 = 1", "named 0 5 2 = 118");
        Boundary.promise(21, sentence, "120 x add 2 7", "named 2 7 0 = 120", "named 2 7 1 = 0", "named 2 7 2 = 119");
        Boundary.promise(21, "IndexOutOfBoundsException; IllegalArgumentException: NAME, another what.",
            Lines.of("add 0 7").each("named # 7 0", "Index", Lines.NO_SITES).each("named # 100 3", "Index", Lines.NO_SITES)
                .each("named 0 # 0", "Argument", "-1", "100", "MIN", "MAX").each("named 0 7 #", "Argument", NO_WHATS)
                .and("named 0 7 3 = Argument", "named 0 100 3 = Argument", "named 2 99 2 = -1").all());
    }

    private static void log() {
        String sentence = "EVENT k (0 on) of a SITE's LOG.";
        Boundary.promise(22, sentence, "log 0 0 = Element", "add 1 7", "add 0 7", "send 1 0", "log 0 0 = 1", "log 0 1 = 0",
            "log 0 2 = Element", "sites 2", "add 0 7", "send 0 1", "log 1 0 = Element", "log 0 0 = 0", "send 1 0",
            "log 0 0 = Element");
        Boundary.promise(22, sentence, "120 x add 0 7", "log 0 0 = 0", "log 0 119 = 119", "log 0 120 = Element", "send 0 1",
            "log 1 119 = 119", "log 1 120 = Element");
        Boundary.promise(22, "IndexOutOfBoundsException; NoSuchElementException.",
            Lines.of("add 0 7", "add 2 7").each("log # 0", "Index", Lines.NO_SITES).each("log # 9", "Index", Lines.NO_SITES)
                .each("log 0 #", "Element", "-1", "1", "MIN", "MAX").and("log 1 0 = Element", "log 2 0 = 1").all());
    }

    private static void table() {
        String sentence = "A cell of a SITE's TABLE.";
        Boundary.promise(23, sentence, "table 0 0 0 = 0", "table 2 2 2 = 0", "120 x add 2 7", "table 2 2 2 = 120", "table 2 2 1 = 0",
            "table 2 1 2 = 0", "send 2 0", "table 0 0 2 = 120", "table 0 2 2 = 120", "table 0 1 2 = 0");
        Boundary.promise(23, sentence, "sites 5", "add 4 7", "send 4 0", "table 0 4 4 = 1", "table 0 0 4 = 1", "table 0 3 4 = 0",
            "table 4 0 4 = 0");
        Boundary.promise(23, "IndexOutOfBoundsException.",
            Lines.of("add 0 7").each("table # 0 0", "Index", Lines.NO_SITES).each("table 0 # 0", "Index", Lines.NO_SITES)
                .each("table 0 0 #", "Index", Lines.NO_SITES).and("table 2 2 2 = 0", "sites 2", "table 1 1 1 = 0",
                    "table 2 1 1 = Index", "table 1 2 1 = Index", "table 1 1 2 = Index").all());
    }

    private static void knows() {
        String sentence = "Whether by a SITE's TABLE an EVENT is KNOWN to another one (or itself).";
        Boundary.promise(24, sentence, "add 2 7", "knows 2 2 0 = true", "knows 2 0 0 = false", "knows 0 0 0 = false",
            "knows 0 2 0 = false", "send 2 0", "knows 0 0 0 = true", "knows 0 2 0 = true", "knows 0 1 0 = false",
            "knows 2 0 0 = false", "fall 0", "knows 0 0 0 = false");
        Boundary.promise(24, sentence, "119 x add 0 7", "send 0 1", "add 0 7", "knows 1 1 118 = true", "knows 1 1 119 = false",
            "knows 1 1 120 = Index", "knows 0 0 119 = true");
        Boundary.promise(24, "IndexOutOfBoundsException.",
            Lines.of("knows 0 0 0 = Index", "add 0 7").each("knows # 0 0", "Index", Lines.NO_SITES)
                .each("knows 0 # 0", "Index", Lines.NO_SITES).each("knows 0 0 #", "Index", "-1", "1", "120", "MIN", "MAX")
                .and("knows 2 2 0 = false").all());
    }

    private static void has() {
        String sentence = "Whether a SITE HAS an EVENT.";
        Boundary.promise(25, sentence, "add 2 7", "take 2 0", "has 2 0 = true", "has 2 1 = true", "has 0 0 = false", "send 2 0",
            "has 0 0 = true", "has 0 1 = true", "fall 0", "has 0 0 = false", "join 0 2", "has 0 1 = true");
        // Known, but it has it not.
        Boundary.promise(25, sentence, "add 0 7", "fall 0", "add 0 7", "knows 0 0 0 = true", "has 0 0 = false", "has 0 1 = true");
        Boundary.promise(25, sentence, "120 x add 0 7", "has 0 0 = true", "has 0 63 = true", "has 0 64 = true", "has 0 119 = true",
            "has 0 120 = Index", "has 1 119 = false");
        Boundary.promise(25, "IndexOutOfBoundsException.", Lines.of("has 0 0 = Index", "add 0 7")
            .each("has # 0", "Index", Lines.NO_SITES).each("has 0 #", "Index", "-1", "1", "64", "120", "128", "MIN", "MAX")
            .and("has 2 0 = false").all());
    }

    private static final String SITE = "Of a SITE: 0 CLOCK, 1 ELEMENTS in its VIEW, 2 EVENTS in its LOG, 3 EVENTS it HAS, 4"
        + " OVERSTATED cells of its TABLE, 5 EVENTS that are LOST to it, 6 EVENTS that it HAS and that all SITES HAVE, 7 how many"
        + " of these are in its LOG.";

    private static Lines site(Lines lines, int site, int... due) {
        for (int what = 0; what < due.length; what++) {
            lines.and("site " + site + " " + what + " = " + due[what]);
        }
        return lines;
    }

    private static void siteNumbers() {
        Boundary.promise(26, SITE, site(new Lines(), 2, 0, 0, 0, 0, 0, 0, 0, 0).all());
        Lines full = Lines.of("sites 2", "120 x add 0 7");
        site(full, 0, 120, 120, 120, 120, 0, 0, 0, 0);
        site(full, 1, 0, 0, 0, 0, 0, 0, 0, 0).and("send 0 1");
        site(full, 0, 120, 120, 120, 120, 0, 0, 120, 120);
        site(full, 1, 0, 120, 0, 120, 0, 0, 120, 0).and("send 1 0");
        site(full, 0, 120, 120, 0, 120, 0, 0, 120, 0).and("fall 1");
        // Row 1 in the table of 0 says 120; nothing stands in a log, so all is lost to 1.
        site(full, 0, 120, 120, 0, 120, 1, 0, 0, 0);
        site(full, 1, 0, 0, 0, 0, 0, 120, 0, 0);
        Boundary.promise(26, SITE, full.all());
        // That all but one have it is not enough.
        Boundary.promise(26, SITE, "sites 5", "add 0 7", "send 0 1", "send 0 2", "send 0 3", "site 0 6 = 0", "site 0 7 = 0",
            "send 0 4", "site 0 6 = 1", "site 4 6 = 1", "site 0 7 = 1", "site 4 7 = 1", "fall 2", "site 0 6 = 0", "site 2 6 = 0");
        // Whatever was asked ahead of it.
        Boundary.promise(26, SITE, "add 0 7", "join 1 0", "join 2 0", "only 0 1 0 = -1", "site 0 7 = 1", "add 0 7", "front 0 -1 = 1",
            "site 0 7 = 1", "only 0 1 0 = 1", "site 1 7 = 1");
    }

    /** Each site's first event is lost to all; three rounds of letters tell all of all clocks. */
    private static void siteOverstated() {
        Lines lines = Lines.of("sites 5");
        for (int site = 0; site < 5; site++) {
            lines.and("add " + site + " 7", "fall " + site, "add " + site + " 7");
        }
        lines.and("site 0 4 = 1", "count 7 = 5", "count 8 = 0");
        for (int i = 0; i < 15; i++) {
            lines.and("send " + i % 5 + " " + (i + 1) % 5);
        }
        for (int site = 0; site < 5; site++) {
            site(lines, site, 2, 5, 0, 5, 25, 5, 5, 0);
        }
        Boundary.promise(26, SITE, lines.and("count 7 = 125", "count 8 = 0", "count 9 = 25", "count 10 = 5").all());
    }

    private static void siteRefused() {
        Boundary.promise(26, "IndexOutOfBoundsException; IllegalArgumentException: another what.",
            Lines.of("add 0 7").each("site # 0", "Index", Lines.NO_SITES).each("site # 8", "Index", Lines.NO_SITES)
                .each("site 0 #", "Argument", "-1", "8", "MIN", "MAX").and("site 0 7 = 0", "site 2 0 = 0").all());
    }

    private static void unlike() {
        String sentence = "How many ELEMENTS are in the VIEW of a SITE, not in that of another one.";
        Boundary.promise(27, sentence, "unlike 0 1 = 0", "add 0 7", "unlike 0 1 = 1", "unlike 1 0 = 0", "send 0 1", "unlike 0 1 = 0",
            "take 1 0", "unlike 0 1 = 1", "unlike 1 0 = 0");
        Boundary.promise(27, sentence, "119 x add 0 7", "add 1 7", "unlike 0 1 = 119", "unlike 1 0 = 1", "unlike 0 2 = 119",
            "unlike 2 0 = 0", "send 0 1", "unlike 0 1 = 0", "unlike 1 0 = 1", "unlike 1 2 = 120");
        Boundary.promise(27, "IndexOutOfBoundsException (both may not be one).",
            Lines.of("add 0 7").each("unlike #", "Index", Lines.NO_COUPLES).and("unlike 0 2 = 1", "unlike 2 0 = 0",
                "unlike 0 0 = Index", "unlike 2 2 = Index").all());
    }

    private static void would() {
        String sentence = "How many EVENTS a LETTER would have now (what 0), how many of these the other SITE HAS (1), how many that"
            + " it HAS not the LETTER would not have, though the first one HAS them (2).";
        Boundary.promise(28, sentence, "would 0 1 0 = 0", "would 0 1 1 = 0", "would 0 1 2 = 0", "add 0 7", "would 0 1 0 = 1",
            "would 0 1 1 = 0", "would 0 1 2 = 0", "would 1 0 0 = 0", "count 4 = 0", "waiting 0 1 = 0");
        Boundary.promise(28, sentence, "sites 2", "120 x add 0 7", "would 0 1 0 = 120", "would 0 1 1 = 0", "would 0 1 2 = 0",
            "send 0 1", "would 0 1 0 = 120", "would 0 1 1 = 120", "would 0 1 2 = 0", "send 1 0", "would 0 1 0 = 0",
            "would 0 1 1 = 0", "would 0 1 2 = 0", "fall 1", "would 0 1 0 = 0", "would 0 1 1 = 0", "would 0 1 2 = 120",
            "would 1 0 2 = 0", "fall 0", "would 0 1 2 = 0");
        // Twelve letters wait there, or the link is cut: it is asked what one would have.
        Boundary.promise(28, sentence, "add 0 7", "12 x write 0 1", "write 0 1 = State", "would 0 1 0 = 1", "cut 0 1 true",
            "would 0 1 0 = 1", "would 1 0 0 = 0");
        Boundary.promise(28, "IndexOutOfBoundsException; IllegalArgumentException: another what.",
            Lines.of("add 0 7").each("would # 0", "Index", Lines.NO_COUPLES).each("would # 3", "Index", Lines.NO_COUPLES)
                .each("would 0 1 #", "Argument", "-1", "3", "MIN", "MAX").and("would 0 2 2 = 0").all());
    }
}
