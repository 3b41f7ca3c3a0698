/** The boundary cases of promises 42 to 47, sentence by sentence. */
public final class BoundaryAheadTest {
    private static final String[] NO_FOUR = {"-1", "4", "MIN", "MAX"};

    public static void main(String[] args) {
        gossip();
        gossipInTwelveRounds();
        falling();
        joining();
        best();
        fewest();
        fewestByCutLinks();
        count();
        countLetters();
        countOverstatedAndLost();
        countAlike();
        Boundary.promisesAreQuoted(42, 47);
        Check.end();
    }

    private static final String GOSSIP = "How many ROUNDS of GOSSIP (0 .. 12) till all SITES HAVE like EVENTS (what 0), till all"
        + " LOGS are empty (1), how many EVENTS LETTERS carry in 12 ROUNDS (2), how many of these were not NEW (3). NONE: not in 12"
        + " (of 0, 1).";

    private static Lines told(String call, Lines start, int... due) {
        for (int what = 0; what < due.length; what++) {
            start.and(call + " " + what + " = " + due[what]);
        }
        return start;
    }

    private static void gossip() {
        for (int n = 2; n <= 5; n++) {
            Boundary.promise(42, GOSSIP, told("gossip", Lines.of("sites " + n), 0, 0, 0, 0).all());
        }
        Boundary.promise(42, GOSSIP, told("gossip", Lines.of("sites 2", "add 0 7"), 1, 1, 1, 0).all());
        // Round 1: 4 tells 0; round 2: 0, 1, 2 tell, and all but 1 and 2 come to know of all; round 3: these, too.
        Boundary.promise(42, GOSSIP, told("gossip", Lines.of("sites 5", "add 4 7"), 2, 3, 4, 0).all());
        // Alike already, but 0 does not know that 1 has it.
        Boundary.promise(42, GOSSIP, told("gossip", Lines.of("sites 2", "add 0 7", "send 0 1"), 0, 1, 1, 1).all());
        // Nothing in any log, but not alike: never.
        Boundary.promise(42, GOSSIP, told("gossip", Lines.of("sites 2", "add 0 7", "send 0 1", "send 1 0", "fall 1"), -1, 0, 0, 0)
            .all());
        Boundary.promise(42, GOSSIP, told("gossip", Lines.of("sites 2", "add 0 7", "cut 0 1 true"), -1, -1, 0, 0).all());
        Boundary.promise(42, GOSSIP, told("gossip", Lines.of("sites 2", "cut 0 1 true"), 0, 0, 0, 0).all());
        // Letters that wait do not come, and a full row does not matter.
        Boundary.promise(42, GOSSIP, told("gossip", Lines.of("sites 2", "add 0 7", "12 x write 0 1"), 1, 1, 1, 0)
            .and("waiting 0 1 = 12", "count 4 = 12", "has 1 0 = false").all());
        Boundary.promise(42, "IllegalArgumentException: another what.",
            Lines.of("add 0 7").each("gossip #", "Argument", NO_FOUR).and("gossip 3 = 0", "gossip 0 = 1").all());
    }

    /** By MODE 2 nobody learns what the other one knows, so that the event is told in each of the 12 rounds. */
    private static void gossipInTwelveRounds() {
        Boundary.promise(42, GOSSIP, told("gossip", Lines.of("sites 2", "mode 2", "add 0 7"), 1, -1, 12, 11).all());
        Boundary.promise(42, GOSSIP, told("gossip", Lines.of("sites 2", "mode 2", "add 1 7"), 1, -1, 12, 11).all());
        Boundary.promise(42, GOSSIP, told("gossip", Lines.of("sites 2", "mode 2", "120 x add 0 7"), 1, -1, 1440, 1320).all());
        // 0 tells 1 and 1 tells 2 in each round; nothing goes back from 2 to 0.
        Boundary.promise(42, GOSSIP, told("gossip", Lines.of("add 0 7", "cut 2 0 true"), 1, -1, 24, 22).all());
    }

    private static final String FALLING = "Were a SITE to FALL now, then: how many EVENTS it HAS (what 0), that are LOST to it (1),"
        + " OVERSTATED cells of its TABLE (2), of all TABLES (3).";

    private static void falling() {
        Boundary.promise(43, FALLING, told("falling 2", new Lines(), 0, 0, 0, 0).all());
        Lines full = told("falling 0", Lines.of("120 x add 0 7"), 0, 120, 0, 0).and("site 0 3 = 120", "save 0");
        Boundary.promise(43, FALLING, told("falling 0", full, 120, 0, 0, 0).all());
        // What it saved, as it falls; then it falls.
        Lines part = told("falling 0", Lines.of("sites 2", "add 0 7", "save 0", "add 0 7", "send 0 1"), 1, 1, 0, 1)
            .and("count 7 = 0", "fall 0 = 1", "site 0 3 = 1", "site 0 5 = 1", "site 0 4 = 0", "count 7 = 1");
        Boundary.promise(43, FALLING, told("falling 0", part, 1, 1, 0, 1).all());
        // A letter that waits has its event; what it saved says more than it has.
        Boundary.promise(43, FALLING, told("falling 0", Lines.of("sites 5", "add 4 7", "write 4 0", "fall 4"), 0, 0, 0, 0)
            .and("lose 4 0 0", "falling 0 1 = 1").all());
        Boundary.promise(43, FALLING, told("falling 4", Lines.of("sites 5", "add 4 7", "fall 4", "add 4 7", "save 4", "fall 4"),
            1, 1, 1, 1).all());
        Boundary.promise(43, "IndexOutOfBoundsException; IllegalArgumentException: another what.",
            Lines.of("add 0 7").each("falling # 0", "Index", Lines.NO_SITES).each("falling # 4", "Index", Lines.NO_SITES)
                .each("falling 0 #", "Argument", NO_FOUR).and("falling 2 3 = 0", "sites 2", "falling 2 0 = Index").all());
    }

    private static void joining() {
        String sentence = "Were a SITE to JOIN by another one now, likewise.";
        Boundary.promise(44, sentence, told("joining 2 0", new Lines(), 0, 0, 0, 0).all());
        Boundary.promise(44, sentence, told("joining 4 0", Lines.of("sites 5", "120 x add 0 7"), 120, 0, 0, 0)
            .and("site 4 3 = 0", "joining 0 4 0 = 0", "joining 0 4 1 = 120", "joining 0 4 2 = 1", "joining 0 4 3 = 1", "count 7 = 0",
                "join 0 4 = 0", "site 0 5 = 120", "site 0 4 = 1", "count 7 = 1").all());
        // Its event is in the log of 2, which does not know that 0 knows it; then only in a letter, and would not be new.
        Boundary.promise(44, sentence, "sites 4", "mode 2", "add 0 7", "send 0 1", "send 1 2", "write 2 0 = 1", "joining 0 3 0 = 0",
            "joining 0 3 1 = 0", "fall 2", "joining 0 3 1 = 1", "falling 0 1 = 0", "cut 0 3 true", "joining 0 3 1 = 1");
        Boundary.promise(44, sentence, Lines.of("add 0 7").each("joining # 0", "Index", Lines.NO_COUPLES)
            .each("joining # 4", "Index", Lines.NO_COUPLES).each("joining 0 1 #", "Argument", NO_FOUR)
            .and("joining 2 0 3 = 0", "sites 2", "joining 0 2 0 = Index", "joining 2 0 0 = Index").all());
    }

    private static void best() {
        String sentence = "The SITE by which another one would best JOIN now: fewest EVENTS LOST to it then, of like ones most that it"
            + " HAS then, of like ones the first.";
        // All are alike: the first, never itself.
        for (int n = 2; n <= 5; n++) {
            Boundary.promise(45, sentence, "sites " + n, "best 0 = 1", "best 1 = 0", "best " + (n - 1) + " = 0");
        }
        Boundary.promise(45, sentence, "sites 5", "add 4 7", "best 0 = 4", "best 3 = 4", "best 4 = 0", "add 3 7", "best 0 = 3",
            "add 4 7", "best 0 = 4", "best 4 = 3", "cut 0 4 true", "best 0 = 4");
        Boundary.promise(45, sentence, "sites 2", "120 x add 0 7", "best 0 = 1", "best 1 = 0");
        // Only by 1 has 0 its own event again; by 3 it would have two, and that one lost.
        Boundary.promise(45, sentence, "sites 4", "add 2 7", "2 x add 3 7", "add 0 7", "send 0 1", "fall 0", "joining 0 1 1 = 0",
            "joining 0 1 0 = 1", "joining 0 3 1 = 1", "joining 0 3 0 = 2", "best 0 = 1", "count 12 = 7");
        Boundary.promise(45, "IndexOutOfBoundsException.", Lines.of("add 0 7").each("best #", "Index", Lines.NO_SITES)
            .and("best 2 = 0", "sites 5", "best 5 = Index", "best 4 = 0", "sites 2", "best 2 = Index").all());
    }

    private static final String FEWEST = "FEWEST: how many couples (k NONE), the k-th of these (0 on): 10 times the SITE and the other"
        + " one; NONE: there is none such (by CUT LINKS, 5 SITES; of k: not so many).";

    private static Lines row(Lines start, int... couples) {
        start.and("fewest -1 = " + couples.length);
        for (int k = 0; k < couples.length; k++) {
            start.and("fewest " + k + " = " + couples[k]);
        }
        return start.each("fewest #", "-1", String.valueOf(couples.length), "-2", "MIN", "MAX");
    }

    private static void fewest() {
        for (int n = 2; n <= 4; n++) {
            Boundary.promise(46, FEWEST, row(Lines.of("sites " + n)).all());
        }
        Boundary.promise(46, FEWEST, row(Lines.of("sites 2", "add 0 7"), 1).all());
        Boundary.promise(46, FEWEST, row(Lines.of("sites 2", "add 1 7"), 10).all());
        Boundary.promise(46, FEWEST, row(Lines.of("sites 2", "add 0 7", "add 1 7"), 1, 10).all());
        Boundary.promise(46, FEWEST, row(Lines.of("sites 3", "add 2 7"), 20, 1).all());
        Boundary.promise(46, FEWEST, row(Lines.of("sites 4", "add 3 7"), 30, 1, 2).all());
        Boundary.promise(46, FEWEST, row(Lines.of("sites 4", "add 0 7", "add 1 7", "add 2 7", "add 3 7"), 1, 12, 23, 30, 1, 2).all());
        Boundary.promise(46, FEWEST, row(Lines.of("sites 4", "30 x add 0 7", "30 x add 1 7", "30 x add 2 7", "30 x add 3 7"),
            1, 12, 23, 30, 1, 2).all());
        // Asked again and again, as it is then.
        Boundary.promise(46, FEWEST, "add 2 7", "fewest -1 = 2", "fewest 0 = 20", "send 2 0", "fewest -1 = 1", "fewest 0 = 1",
            "join 1 0", "fewest -1 = 0", "fewest 0 = -1", "add 0 7", "fewest -1 = 2", "fewest 1 = 2", "fall 0", "fewest -1 = 1",
            "fewest 0 = 10", "fall 1", "fall 2", "fewest -1 = 0");
        Boundary.promise(46, FEWEST, Lines.of("sites 5", "fewest -1 = -1").each("fewest #", "-1", "0", "1", "-2", "MIN", "MAX")
            .and("add 0 7", "fewest -1 = -1", "fewest 0 = -1", "sites 4", "fewest -1 = 0").all());
    }

    private static void fewestByCutLinks() {
        Boundary.promise(46, FEWEST, row(Lines.of("sites 2", "cut 0 1 true")).all());
        Boundary.promise(46, FEWEST, Lines.of("sites 2", "add 0 7", "cut 0 1 true", "fewest -1 = -1", "fewest 0 = -1")
            .and("cut 0 1 false", "fewest -1 = 1").all());
        // A line 1-0-3-2, events at its ends.
        Boundary.promise(46, FEWEST, row(Lines.of("sites 4", "add 1 7", "add 2 7", "cut 1 2 true", "cut 1 3 true", "cut 0 2 true"),
            10, 3, 23, 30, 1, 32).and("cut 0 3 true", "fewest -1 = -1", "fewest 0 = -1").all());
        // Two parts, each of which has all.
        Boundary.promise(46, FEWEST, row(Lines.of("sites 4", "add 0 7", "send 0 2", "cut 0 2 true", "cut 0 3 true", "cut 1 2 true",
            "cut 1 3 true"), 1, 23).all());
        // What nobody has any more does not matter.
        Boundary.promise(46, FEWEST, row(Lines.of("sites 2", "add 0 7", "fall 0", "cut 0 1 true")).all());
    }

    private static final String COUNT = "0 SITES, 1 MODE, 2 EVENTS, 3 LETTERS that wait, 4 LETTERS written since sites(), 5 EVENTS that"
        + " these carried, 6 of those that COME how many EVENTS were not NEW, 7 OVERSTATED cells of all TABLES, 8 the first of these"
        + " (100 times the SITE, 10 times the row, and at; NONE), 9 EVENTS LOST, of all SITES together, 10 EVENTS that all SITES HAVE,"
        + " 11 whether all VIEWS are alike (1, 0), 12 STEPS, 13 LINKS that are CUT.";

    private static void count() {
        Boundary.promise(47, COUNT, told("count", new Lines(), 3, 0, 0, 0, 0, 0, 0, 0, -1, 0, 0, 1, 0, 0).all());
        Boundary.promise(47, COUNT, "sites 2", "count 0 = 2", "sites 5", "count 0 = 5", "mode 2", "count 1 = 2", "mode 0", "count 1 = 0",
            "119 x add 0 7", "count 2 = 119", "take 0 0", "count 2 = 120", "count 12 = 120", "cut 0 1 true", "count 13 = 1",
            "count 12 = 121");
        Boundary.promise(47, "NONE for others.",
            Lines.of("add 0 7", "cut 0 1 true").each("count #", "-1", "-1", "14", "15", "-2", "MIN", "MAX").and("count 13 = 1").all());
    }

    private static void countLetters() {
        // All sites have all 120 events, which by their tables only 0 knows.
        Lines lines = Lines.of("sites 5", "120 x add 0 7", "join 1 0", "join 2 0", "join 3 0", "join 4 0");
        for (int from = 0; from < 5; from++) {
            for (int to = 0; to < 5; to++) {
                if (from != to) {
                    lines.and("12 x write " + from + " " + to);
                }
            }
        }
        Boundary.promise(47, COUNT, lines.and("count 3 = 240", "count 4 = 240", "count 5 = 23040", "count 6 = 0", "count 10 = 120",
            "come 4 1 0 = 0", "count 6 = 120", "count 3 = 239", "lose 4 1 0 = 10", "count 6 = 120", "count 3 = 238", "twice 4 1 0 = 11",
            "count 4 = 240", "count 5 = 23040", "come 4 1 0 = 0", "count 6 = 240", "write 4 1 = 120", "count 4 = 241",
            "count 5 = 23160", "sites 5", "count 3 = 0", "count 4 = 0", "count 5 = 0", "count 6 = 0").all());
        // What is refused is not counted; a letter of which some is new.
        Boundary.promise(47, COUNT, "add 0 7", "write 0 1", "add 0 7", "write 0 1", "cut 0 1 true", "write 0 1 = State",
            "come 0 1 0 = State", "count 4 = 2", "count 5 = 3", "count 6 = 0", "cut 0 1 false", "come 0 1 0 = 1", "count 6 = 0",
            "come 0 1 0 = 1", "count 6 = 1");
    }

    private static void countOverstatedAndLost() {
        Boundary.promise(47, COUNT, "sites 5", "add 4 7", "count 7 = 0", "count 8 = -1", "fall 4", "count 7 = 0", "count 8 = -1",
            "add 4 7", "count 7 = 1", "count 8 = 444", "count 9 = 5");
        // Row 4 in the table of 3 comes ahead of all of 4.
        Boundary.promise(47, COUNT, "sites 5", "add 4 7", "fall 4", "add 4 7", "send 4 3", "count 7 = 3", "count 8 = 334",
            "table 3 3 4 = 2", "send 3 0", "count 8 = 4", "count 7 = 6");
        Boundary.promise(47, COUNT, "add 2 7", "send 2 1", "fall 2", "count 7 = 1", "count 8 = 122", "send 1 0", "count 8 = 22",
            "fall 1", "count 8 = 12");
        Boundary.promise(47, COUNT, "sites 5", "120 x add 0 7", "count 9 = 0", "fall 0", "count 9 = 600");
    }

    private static void countAlike() {
        Boundary.promise(47, COUNT, "sites 2", "count 10 = 0", "count 11 = 1", "add 0 7", "count 10 = 0", "count 11 = 0", "take 0 0",
            "count 10 = 0", "count 11 = 1", "add 1 7", "count 11 = 0", "send 0 1", "count 10 = 2", "send 1 0", "count 10 = 3",
            "count 11 = 1");
        // That of the last of five sites is another one.
        Boundary.promise(47, COUNT, "sites 5", "add 4 7", "count 11 = 0", "join 0 4", "join 1 4", "join 2 4", "count 11 = 0",
            "count 10 = 0", "join 3 4", "count 11 = 1", "count 10 = 1", "take 4 0", "count 11 = 0");
        Boundary.promise(47, COUNT, "sites 2", "119 x add 0 7", "join 1 0", "count 11 = 1", "count 10 = 119", "add 0 7", "count 11 = 0",
            "count 10 = 119", "join 1 0", "count 10 = 120");
    }
}
