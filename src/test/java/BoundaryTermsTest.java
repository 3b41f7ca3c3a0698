/** The boundary cases that the document names under "What it is" and "Terms", sentence by sentence. */
public final class BoundaryTermsTest {
    public static void main(String[] args) {
        calls();
        sites();
        events();
        times();
        names();
        tables();
        known();
        ownEvents();
        lettersHave();
        modes();
        waiting();
        whatIsNew();
        views();
        modeOfLetter();
        wholeTable();
        ownRow();
        noTable();
        logs();
        saved();
        joined();
        overstated();
        lost();
        ahead();
        heights();
        gossip();
        fewest();
        links();
        parts();
        steps();
        whenAndBy();
        ways();
        trace();
        refused();
        draws();
        none();
        Boundary.limitsAreQuoted("Terms");
        Check.end();
    }

    private static void calls() {
        Boundary.test("What it is", "An object is used for at most 512 calls after it has been made",
            "120 x add 0 7", "391 x save 0", "count 12 = 511");
        Boundary.test("What it is", "An object is used for at most 512 calls after it has been made",
            "sites 5", "511 x chance 12345 60");
    }

    private static void sites() {
        String sentence = "SITES 0 .. n - 1 (n 2 .. 5; 3 at first).";
        Boundary.terms(sentence, "count 0 = 3", "save 0 = 0", "save 2 = 0", "save 3 = Index", "save -1 = Index");
        Boundary.terms(sentence, "add 2 7", "sites 1 = Argument", "sites 2 = 2", "count 0 = 2", "add 1 7 = 0",
            "save 1 = 1", "save 2 = Index", "save -1 = Index");
        Boundary.terms(sentence, "add 2 7", "sites 6 = Argument", "sites 5 = 5", "count 0 = 5", "add 4 7 = 0",
            "save 4 = 1", "save 5 = Index", "save -1 = Index");
        Boundary.terms(sentence, "sites 4 = 4", "save 3 = 0", "save 4 = Index", "sites 3 = 3", "save 2 = 0",
            "save 3 = Index", "sites 0 = Argument", "sites -1 = Argument", "sites -3 = Argument", "sites MIN = Argument",
            "sites MAX = Argument", "count 0 = 3");
    }

    private static void events() {
        String sentence = "EVENTS (120 at most) are numbered from 0 on as they come";
        Boundary.terms(sentence, "event 0 0 = Index", "add 2 7 = 0", "event 0 0 = 2", "event 1 0 = Index", "add 0 7 = 1",
            "take 2 0 = 2", "event 2 0 = 2", "event 3 0 = Index", "event -1 0 = Index");
        Boundary.terms(sentence, "add 2 7 = 0", "117 x add 0 7", "count 2 = 118", "add 1 7 = 118", "take 0 117 = 119",
            "count 2 = 120", "add 0 7 = State", "take 0 1 = State", "add 2 7 = State", "take 2 0 = State",
            "event 119 2 = 1", "event 120 0 = Index", "count 2 = 120", "count 12 = 120");
        Boundary.terms(sentence, "120 x add 1 7", "add 1 7 = State", "sites 3 = 3", "add 1 7 = 0", "event 1 0 = Index");
        Boundary.terms(sentence, "120 x add 1 7", "keep 0 = 120", "sites 2", "add 1 7 = 0", "back 0 = 120",
            "add 1 7 = State");
    }

    private static void times() {
        String sentence = "its TIME (how many EVENTS came there, it too: 1, 2, ..; a SITE's CLOCK is that of its latest"
            + " one, 0 ahead of any)";
        Boundary.terms(sentence, "site 1 0 = 0", "add 1 7", "event 0 1 = 1", "site 1 0 = 1", "add 0 7", "event 1 1 = 1",
            "site 0 0 = 1", "take 1 0", "event 2 1 = 2", "site 1 0 = 2", "site 2 0 = 0", "event 0 1 = 1");
        Boundary.terms(sentence, "120 x add 0 7", "event 0 1 = 1", "event 119 1 = 120", "site 0 0 = 120",
            "table 0 0 0 = 120", "site 1 0 = 0");
        Boundary.terms(sentence, "add 0 7", "send 0 1", "site 1 0 = 0", "sites 3", "site 0 0 = 0", "add 0 7", "event 0 1 = 1");
    }

    private static void names() {
        String sentence = "IN with a NAME (0 .. 99), or OUT of an ELEMENT; an ELEMENT is what came by an IN; its MARK is"
            + " that EVENT's number.";
        Boundary.terms(sentence, "add 0 0 = 0", "add 0 99 = 1", "add 0 100 = Argument", "add 0 -1 = Argument",
            "add 0 MIN = Argument", "add 0 MAX = Argument", "add 0 50 = 2", "event 0 4 = 0", "event 1 4 = 99",
            "event 2 3 = 2", "view 0 1 0 = 1", "view 0 1 1 = 99");
        Boundary.terms(sentence, "take 0 0 = Element", "add 0 7 = 0", "take 0 0 = 1", "take 0 1 = Element",
            "take 0 0 = Element", "event 1 3 = 0", "event 1 4 = 7", "event 1 2 = 1", "event 0 2 = 0");
    }

    private static void tables() {
        String sentence = "a TABLE of n rows of n TIMES (0 at first), and it HAS EVENTS.";
        for (int n = 2; n <= 5; n++) {
            Lines lines = Lines.of("sites " + n);
            for (int site = 0; site < n; site++) {
                for (int row = 0; row < n; row++) {
                    lines.and("table " + site + " " + row + " 0 = 0", "table " + site + " " + row + " " + (n - 1) + " = 0");
                }
                lines.and("site " + site + " 3 = 0");
            }
            String[] wrong = {"-1", String.valueOf(n), "MIN", "MAX"};
            lines.each("table # 0 0", "Index", wrong).each("table 0 # 0", "Index", wrong).each("table 0 0 #", "Index", wrong);
            Boundary.terms(sentence, lines.all());
        }
    }

    private static void known() {
        String sentence = "to SITE k is KNOWN an EVENT of SITE l, if the TABLE's row k has at l its TIME or more.";
        Boundary.terms(sentence, "2 x add 1 7", "send 1 0", "add 1 7", "table 0 0 1 = 2", "knows 0 0 0 = true",
            "knows 0 0 1 = true", "knows 0 0 2 = false", "knows 0 1 1 = true", "knows 0 1 2 = false", "knows 0 2 0 = false",
            "knows 0 0 3 = Index", "knows 0 0 -1 = Index", "knows 1 1 2 = true", "knows 1 0 0 = false");
        // A time that is greater, though the site has it not.
        Boundary.terms(sentence, "add 0 7", "fall 0", "add 0 7", "table 0 0 0 = 2", "has 0 0 = false", "knows 0 0 0 = true");
    }

    private static void ownEvents() {
        String sentence = "An EVENT at a SITE: CLOCK is one more, its TABLE has that in its own row at itself; the EVENT"
            + " comes into its LOG, it HAS it; by an IN the ELEMENT comes into its VIEW, by an OUT it goes.";
        Boundary.terms(sentence, "add 0 7", "fall 0", "site 0 0 = 1", "table 0 0 0 = 0", "add 0 8 = 1", "site 0 0 = 2",
            "table 0 0 0 = 2", "table 0 0 1 = 0", "table 0 1 0 = 0", "event 1 1 = 2", "log 0 0 = 1", "log 0 1 = Element",
            "has 0 1 = true", "has 0 0 = false", "has 1 1 = false", "view 0 0 0 = 1", "site 0 1 = 1", "take 0 1 = 2",
            "site 0 0 = 3", "table 0 0 0 = 3", "log 0 1 = 2", "has 0 2 = true", "view 0 0 0 = Element", "table 1 0 0 = 0");
    }

    private static void lettersHave() {
        String sentence = "all EVENTS of its LOG, in order, which by its TABLE are not KNOWN to the other one";
        Boundary.terms(sentence, "write 0 1 = 0", "letter 0 1 0 0 = 0", "inLetter 0 1 0 0 = Element");
        Boundary.terms(sentence, "120 x add 0 7", "write 0 1 = 120", "inLetter 0 1 0 0 = 0", "inLetter 0 1 0 119 = 119",
            "inLetter 0 1 0 120 = Element");
        Boundary.terms(sentence, "2 x add 0 7", "send 0 1", "write 0 1 = 2", "lose 0 1 0", "send 1 0", "write 0 1 = 0",
            "write 0 2 = 2", "add 0 7", "write 0 1 = 1", "inLetter 0 1 1 0 = 2", "inLetter 0 1 1 1 = Element");
        Boundary.terms(sentence, "add 1 7", "add 0 7", "send 1 0", "write 0 2 = 2", "inLetter 0 2 0 0 = 1",
            "inLetter 0 2 0 1 = 0");
        // It tells what stands in the log, not what it has.
        Boundary.terms(sentence, "sites 2", "add 0 7", "send 0 1", "send 1 0", "fall 1", "site 0 3 = 1", "write 0 1 = 0");
    }

    private static void modes() {
        String sentence = "by MODE (0 at first) 0 its TABLE, 1 its own row of that, 2 nothing else.";
        int[][] rowOfThird = {{0, 1}, {1, 0}, {2, 0}};
        for (int[] mode : rowOfThird) {
            Boundary.terms(sentence, "count 1 = 0", "add 2 7", "send 2 1", "mode " + mode[0] + " = 0", "write 1 0 = 1",
                "letter 1 0 0 1 = " + mode[0], "come 1 0 0 = 1", "table 0 0 2 = 1", "table 0 1 2 = 1",
                "table 0 2 2 = " + mode[1]);
        }
        // Letters without any event, by modes: a row comes by 0 and by 1.
        int[][] rowOfSender = {{0, 1}, {1, 1}, {2, 0}};
        for (int[] mode : rowOfSender) {
            Boundary.terms(sentence, "add 0 7", "send 0 1", "mode " + mode[0], "write 1 0 = 0", "come 1 0 0 = 0",
                "table 0 1 0 = " + mode[1], "table 0 0 0 = 1");
        }
    }

    private static void waiting() {
        String sentence = "LETTERS wait in a row for each couple of SITES (from, to), 12 at most.";
        Boundary.terms(sentence, "waiting 0 1 = 0", "11 x write 0 1", "waiting 0 1 = 11", "write 0 1 = 0", "waiting 0 1 = 12",
            "write 0 1 = State", "twice 0 1 0 = State", "waiting 1 0 = 0", "write 1 0 = 0", "write 0 2 = 0", "count 3 = 14",
            "come 0 1 11 = 0", "waiting 0 1 = 11", "write 0 1 = 0", "write 0 1 = State", "lose 0 1 0 = 11",
            "twice 0 1 10 = 12", "twice 0 1 11 = State", "count 3 = 14");
        Lines all = Lines.of("sites 5");
        for (int from = 0; from < 5; from++) {
            for (int to = 0; to < 5; to++) {
                if (from != to) {
                    all.and("12 x write " + from + " " + to);
                }
            }
        }
        all.and("count 3 = 240", "write 4 3 = State", "write 0 1 = State", "twice 3 4 11 = State", "count 4 = 240");
        Boundary.terms(sentence, all.all());
    }

    private static void whatIsNew() {
        String sentence = "of its EVENTS those are NEW that by the TABLE of the SITE to which it comes are not KNOWN to that"
            + " itself.";
        Boundary.terms(sentence, "120 x add 0 7", "write 0 1", "twice 0 1 0 = 2", "come 0 1 0 = 120", "come 0 1 0 = 0",
            "count 6 = 120");
        Boundary.terms(sentence, "add 0 7", "write 0 1", "add 0 7", "write 0 1", "come 0 1 0 = 1", "come 0 1 0 = 1",
            "count 6 = 1");
        // What is known to it by a greater time is not new, though it has it not.
        Boundary.terms(sentence, "sites 2", "add 0 7", "write 0 1 = 1", "add 0 7", "fall 0 = 2", "add 0 7 = 2",
            "write 0 1 = 1", "come 0 1 1 = 1", "table 1 1 0 = 3", "come 0 1 0 = 0", "has 1 0 = false", "has 1 2 = true",
            "view 1 0 0 = 2", "view 1 1 0 = Element", "count 6 = 1");
    }

    private static void views() {
        String sentence = "ELEMENTS of the NEW INS come into its VIEW, then those of NEW OUTS go; it HAS all NEW ones.";
        Boundary.terms(sentence, "send 0 1", "site 1 1 = 0", "site 1 3 = 0");
        Boundary.terms(sentence, "add 0 7", "take 0 0", "write 0 1 = 2", "come 0 1 0 = 2", "site 1 1 = 0", "site 1 3 = 2");
        Boundary.terms(sentence, "add 0 7", "send 0 1", "take 0 0", "site 1 1 = 1", "send 0 1", "site 1 1 = 0");
        // Site 2 fell, and 1 thinks that it knows the IN: the OUT comes first, the IN behind it.
        Boundary.terms(sentence, "sites 4", "add 0 7 = 0", "send 0 1", "send 1 2", "send 2 1", "fall 2", "take 1 0 = 1",
            "mode 2", "write 1 2 = 1", "come 1 2 0 = 1", "has 2 1 = true", "has 2 0 = false", "site 2 1 = 0",
            "write 0 2 = 1", "come 0 2 0 = 1", "site 2 1 = 1", "write 2 3 = 2", "inLetter 2 3 0 0 = 1",
            "inLetter 2 3 0 1 = 0", "come 2 3 0 = 2", "site 3 1 = 0", "has 3 0 = true", "has 3 1 = true");
    }

    private static void modeOfLetter() {
        String sentence = "MODE (as the LETTER was written)";
        Boundary.terms(sentence, "add 2 7", "send 2 1", "mode 1", "write 1 0", "mode 0", "letter 1 0 0 1 = 1",
            "come 1 0 0 = 1", "table 0 1 2 = 1", "table 0 2 2 = 0");
        Boundary.terms(sentence, "add 2 7", "send 2 1", "write 1 0", "mode 2", "letter 1 0 0 1 = 0", "come 1 0 0 = 1",
            "table 0 2 2 = 1");
        Boundary.terms(sentence, "add 0 7", "send 0 1", "mode 2", "write 1 0 = 0", "mode 1", "letter 1 0 0 1 = 2",
            "come 1 0 0 = 0", "table 0 1 0 = 0");
        Boundary.terms(sentence, "add 2 7", "send 2 1", "mode 1", "write 1 0", "twice 1 0 0", "mode 0", "lose 1 0 0",
            "letter 1 0 0 1 = 1", "come 1 0 0", "table 0 2 2 = 0");
    }

    private static void wholeTable() {
        String sentence = "0: its own row becomes the greater of it and the sender's row of the LETTER's TABLE, time by time;"
            + " then each row the greater of it and the same row of that TABLE;";
        // An older letter behind a later one makes no time less.
        Boundary.terms(sentence, "add 0 7", "write 0 1", "add 0 7", "write 0 1", "come 0 1 1 = 2", "table 1 0 0 = 2",
            "table 1 1 0 = 2", "come 0 1 0 = 0", "table 1 0 0 = 2", "table 1 1 0 = 2");
        // Of two rows each has a greater time.
        Boundary.terms(sentence, "2 x add 1 7", "add 0 7", "send 0 1", "table 1 1 0 = 1", "table 1 1 1 = 2",
            "table 1 0 0 = 1", "table 1 0 1 = 0");
        Boundary.terms(sentence, "add 2 7", "send 2 0", "send 0 1", "table 1 2 2 = 1", "table 1 0 2 = 1", "table 1 1 2 = 1",
            "table 1 2 0 = 0");
        // The last of five rows, at the last site.
        Boundary.terms(sentence, "sites 5", "3 x add 4 7", "send 4 0", "send 0 3", "table 3 4 4 = 3", "table 3 0 4 = 3",
            "table 3 3 4 = 3", "table 3 1 4 = 0", "table 3 4 3 = 0");
    }

    private static void ownRow() {
        String sentence = "1: its own row, and the sender's row, become the greater of it and the row in the LETTER;";
        Boundary.terms(sentence, "mode 1", "add 0 7", "write 0 1", "add 0 7", "write 0 1", "come 0 1 1 = 2",
            "table 1 0 0 = 2", "table 1 1 0 = 2", "come 0 1 0 = 0", "table 1 0 0 = 2", "table 1 1 0 = 2");
        Boundary.terms(sentence, "mode 1", "2 x add 1 7", "add 0 7", "send 0 1", "table 1 1 0 = 1", "table 1 1 1 = 2",
            "table 1 0 0 = 1", "table 1 0 1 = 0");
        Boundary.terms(sentence, "mode 1", "add 2 7", "send 2 0", "send 0 1", "table 1 2 2 = 0", "table 1 0 2 = 1",
            "table 1 1 2 = 1");
        // The row of a letter without events.
        Boundary.terms(sentence, "mode 1", "add 0 7", "send 0 1", "table 0 1 0 = 0", "write 1 0 = 0", "come 1 0 0 = 0",
            "table 0 1 0 = 1");
    }

    private static void noTable() {
        String sentence = "2: its own row and the sender's row have at the SITE of each EVENT of the LETTER at least its"
            + " TIME.";
        Boundary.terms(sentence, "mode 2", "add 0 7", "write 0 1", "add 0 7", "write 0 1", "come 0 1 1 = 2",
            "table 1 0 0 = 2", "table 1 1 0 = 2", "come 0 1 0 = 0", "table 1 0 0 = 2", "table 1 1 0 = 2");
        // An event that is not new tells, too, what the sender knows.
        Boundary.terms(sentence, "mode 2", "add 2 7", "send 2 0", "send 2 1", "table 1 0 2 = 0", "table 1 2 2 = 1",
            "write 0 1 = 1", "come 0 1 0 = 0", "table 1 0 2 = 1", "table 1 1 2 = 1");
        // The sender's own row had more, but only what it tells counts.
        Boundary.terms(sentence, "add 1 7", "send 1 0", "mode 2", "add 0 7", "write 0 1 = 1", "come 0 1 0 = 1",
            "table 1 0 0 = 1", "table 1 0 1 = 0", "table 1 1 1 = 1");
        Boundary.terms(sentence, "mode 2", "add 0 7", "send 1 0", "table 0 1 1 = 0", "table 0 0 0 = 1");
    }

    private static void logs() {
        String sentence = "Then its LOG: NEW ones come behind it, in order; and all that by its TABLE are KNOWN to all SITES"
            + " are dropped from it.";
        Boundary.terms(sentence, "add 1 7", "2 x add 0 7", "send 0 1", "log 1 0 = 0", "log 1 1 = 1", "log 1 2 = 2",
            "log 1 3 = Element");
        Boundary.terms(sentence, "sites 2", "120 x add 0 7", "send 0 1", "site 1 2 = 0", "site 0 2 = 120",
            "log 1 0 = Element", "log 0 119 = 119", "send 1 0", "site 0 2 = 0", "log 0 0 = Element");
        // Known to four of five sites it stays, known to the fifth it goes.
        Boundary.terms(sentence, "sites 5", "add 0 7", "send 0 1", "send 1 2", "send 2 3", "sure 3 4 = 1", "sure 3 5 = 0",
            "site 3 2 = 1", "send 3 4", "sure 4 5 = 1", "site 4 2 = 0", "site 3 2 = 1", "send 4 3", "site 3 2 = 0",
            "site 2 2 = 1");
        // Of a log some go, some stay, in order.
        Boundary.terms(sentence, "sites 2", "add 1 7", "add 0 7", "send 1 0", "log 0 0 = 1", "site 0 2 = 1", "add 0 7",
            "send 0 1", "site 1 2 = 0", "send 1 0", "site 0 2 = 0");
    }

    private static void saved() {
        String first = "SAVED is of each SITE its VIEW, LOG, TABLE, what it HAS (as at first, till it saves).";
        Boundary.terms(first, "fall 0 = 0", "add 0 7", "send 0 1", "fall 0 = 1", "site 0 1 = 0", "site 0 2 = 0",
            "site 0 3 = 0", "table 0 0 0 = 0", "fall 1 = 1", "table 1 0 0 = 0", "table 1 1 0 = 0");
        Boundary.terms(first, "add 0 8", "save 0 = 1", "add 0 9", "send 1 0", "fall 0 = 1", "view 0 0 1 = 8",
            "view 0 1 0 = Element", "log 0 0 = 0", "log 0 1 = Element", "table 0 0 0 = 1", "has 0 1 = false",
            "has 0 0 = true", "sites 3", "add 0 7", "fall 0 = 1", "site 0 3 = 0");
        String second = "all these are as SAVED, its CLOCK stays. (It goes on by itself: its next EVENT has the next TIME.)";
        Boundary.terms(second, "2 x add 0 7", "fall 0 = 2", "site 0 0 = 2", "add 0 7 = 2", "event 2 1 = 3", "fall 0 = 1",
            "site 0 0 = 3", "take 0 2 = Element", "add 0 7 = 3", "event 3 1 = 4");
        Boundary.terms(second, "fall 0 = 0", "site 0 0 = 0", "add 0 7", "event 0 1 = 1");
        Boundary.terms(second, "120 x add 0 7", "fall 0 = 120", "site 0 0 = 120", "site 0 3 = 0", "add 0 7 = State");
    }

    private static void joined() {
        String sentence = "It JOINS by another SITE: its VIEW, LOG, what it HAS are as that one's; its TABLE, too, but its own"
            + " row is that one's own row, and at itself its CLOCK.";
        Boundary.terms(sentence, "3 x add 0 7", "2 x add 1 8", "join 0 1 = 2", "table 0 0 0 = 3", "table 0 0 1 = 2",
            "table 0 1 1 = 2", "table 0 1 0 = 0", "log 0 0 = 3", "log 0 1 = 4", "log 0 2 = Element", "view 0 0 0 = 3",
            "view 0 1 0 = 4", "view 0 2 0 = Element", "site 0 0 = 3", "add 0 7 = 5", "event 5 1 = 4");
        Boundary.terms(sentence, "2 x add 0 7", "join 2 0 = 2", "table 2 2 2 = 0", "table 2 2 0 = 2", "table 2 0 0 = 2",
            "table 2 1 0 = 0");
        Boundary.terms(sentence, "120 x add 0 7", "join 2 0 = 120", "site 2 2 = 120", "log 2 119 = 119", "view 2 119 0 = 119",
            "join 0 1 = 0", "site 0 1 = 0", "site 0 2 = 0", "table 0 0 0 = 120", "join 1 1 = Index");
    }

    private static void overstated() {
        String sentence = "A cell of a SITE's TABLE, row k, at l, is OVERSTATED, if SITE k HAS not all EVENTS of SITE l of"
            + " TIMES up to that.";
        // Cells that are 0 say nothing.
        Boundary.terms(sentence, "add 0 7", "count 7 = 0", "fall 0", "count 7 = 0", "count 8 = -1");
        // Site 0 has time 1, not 2: a cell of 1 is right.
        Boundary.terms(sentence, "sites 2", "add 0 7", "save 0", "send 0 1", "add 0 7", "fall 0", "table 1 0 0 = 1",
            "site 1 4 = 0", "site 0 4 = 0", "count 7 = 0");
        // A cell of 2 is not.
        Boundary.terms(sentence, "sites 2", "add 0 7", "save 0", "add 0 7", "send 0 1", "fall 0", "table 1 0 0 = 2",
            "site 1 4 = 1", "site 0 4 = 0", "count 7 = 1", "count 8 = 100");
        // Nor one of 3, though it has the event of time 3: that of time 2 is lacking.
        Boundary.terms(sentence, "sites 2", "add 0 7", "save 0", "add 0 7", "fall 0", "add 0 7", "table 0 0 0 = 3",
            "has 0 2 = true", "site 0 4 = 1", "count 8 = 0", "count 7 = 1");
        // The last cell of five sites.
        Boundary.terms(sentence, "sites 5", "add 4 7", "fall 4", "add 4 7", "site 4 4 = 1", "count 7 = 1", "count 8 = 444");
    }

    private static void lost() {
        String sentence = "An EVENT is LOST to a SITE that HAS it not, if no SITE has it in its LOG and not KNOWN to that SITE"
            + " by its TABLE, and no LETTER to that SITE which waits has it (and not KNOWN to that SITE by that one's own TABLE).";
        Boundary.terms(sentence, "count 9 = 0", "add 0 7", "site 0 5 = 0", "site 1 5 = 0", "site 2 5 = 0", "count 9 = 0");
        // In a log, but known to the site by that table.
        Boundary.terms(sentence, "add 0 7", "send 0 1", "send 1 0", "fall 1", "log 0 0 = 0", "site 1 5 = 1", "site 2 5 = 0",
            "count 9 = 1");
        // In no log; a letter to that site waits, or one to another.
        Boundary.terms(sentence, "add 0 7", "write 0 1", "fall 0", "site 1 5 = 0", "site 2 5 = 1", "site 0 5 = 1",
            "count 9 = 2", "lose 0 1 0 = 0", "site 1 5 = 1", "count 9 = 3");
        // A letter that waits has it, but it would not be new.
        Boundary.terms(sentence, "sites 2", "add 0 7", "write 0 1", "add 0 7", "fall 0", "add 0 7", "write 0 1",
            "site 1 5 = 1", "come 0 1 1 = 1", "waiting 0 1 = 1", "site 1 5 = 2");
        Boundary.terms(sentence, "120 x add 0 7", "fall 0", "site 0 5 = 120", "count 9 = 360");
    }

    private static void ahead() {
        String sentence = "AHEAD: an EVENT is ahead of another one, if the SITE of that HAD it just ahead of that's coming.";
        Boundary.terms(sentence, "2 x add 0 7", "ahead 0 0 = false", "ahead 1 1 = false", "ahead 0 1 = true",
            "ahead 1 0 = false");
        Boundary.terms(sentence, "add 1 7", "add 0 7", "send 1 0", "ahead 0 1 = false", "add 0 7", "ahead 0 2 = true");
        Boundary.terms(sentence, "add 0 7", "fall 0", "add 0 7", "ahead 0 1 = false", "add 0 7", "fall 0", "ahead 1 2 = true");
        Boundary.terms(sentence, "120 x add 0 7", "ahead 0 119 = true", "ahead 118 119 = true", "ahead 119 118 = false",
            "ahead 63 64 = true", "ahead 64 63 = false");
        String concurrent = "CONCURRENT are two of which none is ahead.";
        Boundary.terms(concurrent, "wide 0 = 0", "add 0 7", "event 0 8 = 0", "wide 0 = 0", "add 1 7", "event 0 8 = 1",
            "event 1 8 = 1", "wide 0 = 1");
        Boundary.terms(concurrent, "60 x add 0 7", "60 x add 1 7", "wide 0 = 3600", "event 0 8 = 60", "event 119 8 = 60",
            "event 59 8 = 60");
    }

    private static void heights() {
        String sentence = "HEIGHT: how many EVENTS the longest row has that ends with it, each ahead of the next one.";
        Boundary.terms(sentence, "add 0 7", "event 0 7 = 1", "add 1 7", "event 1 7 = 1", "add 0 7", "event 2 7 = 2",
            "send 0 1", "event 1 7 = 1", "add 1 7", "event 3 7 = 3");
        Boundary.terms(sentence, "120 x add 0 7", "event 0 7 = 1", "event 118 7 = 119", "event 119 7 = 120", "wide 1 = 120",
            "wide 2 = 119");
    }

    private static void gossip() {
        String sentence = "in each SITE by SITE, rising: it writes a LETTER to the next SITE (round), by MODE, and that COMES"
            + " at once. (A couple whose LINK is CUT: none is written.)";
        for (int n = 2; n <= 5; n++) {
            int last = n - 1;
            // From the first site all have it in one round; the last one tells site 0 at the round's end.
            Boundary.terms(sentence, "sites " + n, "add 0 7", "gossip 0 = 1", "sites " + n, "add " + last + " 7",
                "gossip 0 = " + (n == 2 ? 1 : 2), "cut " + last + " 0 true", "gossip 0 = -1", "gossip 1 = -1", "gossip 2 = 0");
        }
        Boundary.terms(sentence, "sites 4", "add 0 7", "cut 0 2 true", "cut 1 3 true", "gossip 0 = 1", "cut 2 3 true",
            "gossip 0 = -1", "count 4 = 0", "count 12 = 4");
    }

    private static void fewest() {
        String sentence = "FEWEST: couples of SITES one behind the other, by each of which the second one comes to HAVE all"
            + " that the first one HAS, too, on paper (CUT ones: none), so that behind the last all SITES HAVE like EVENTS:"
            + " the fewest, of like few the first row, compared one by one (by the first SITE, then the other one); with 4"
            + " SITES at most.";
        Boundary.terms(sentence, "sites 4", "fewest -1 = 0", "fewest 0 = -1", "add 3 7", "fewest -1 = 3", "fewest 0 = 30",
            "fewest 1 = 1", "fewest 2 = 2", "fewest 3 = -1");
        Boundary.terms(sentence, "sites 4", "add 0 7", "add 1 7", "add 2 7", "add 3 7", "fewest -1 = 6", "fewest 0 = 1",
            "fewest 1 = 12", "fewest 2 = 23", "fewest 3 = 30", "fewest 4 = 1", "fewest 5 = 2", "fewest 6 = -1");
        Boundary.terms(sentence, "sites 5", "fewest -1 = -1", "fewest 0 = -1", "add 0 7", "fewest -1 = -1", "fewest 0 = -1");
        Boundary.terms(sentence, "sites 2", "cut 0 1 true", "fewest -1 = 0", "add 0 7", "fewest -1 = -1", "fewest 0 = -1",
            "cut 0 1 false", "fewest -1 = 1", "fewest 0 = 1", "has 1 0 = false");
    }

    private static void links() {
        String sentence = "LINKS of two SITES are CUT or not (none at first); one that is CUT: no LETTER is written, none COMES"
            + " (those that wait stay).";
        Boundary.terms(sentence, "count 13 = 0", "add 0 7", "write 0 1 = 1", "write 1 0 = 0", "cut 0 1 true = true",
            "write 0 1 = State", "write 1 0 = State", "come 0 1 0 = State", "come 1 0 0 = State", "waiting 0 1 = 1",
            "waiting 1 0 = 1", "count 13 = 1", "write 0 2 = 1", "come 0 2 0 = 1", "cut 1 0 false = true", "count 13 = 0",
            "come 0 1 0 = 1", "come 1 0 0 = 0", "write 0 1 = 1");
    }

    private static void parts() {
        String sentence = "PARTS are sets of SITES that are joined by LINKS that are not CUT, one behind the other.";
        Boundary.terms(sentence, "sites 2", "part -1 = 1", "part 0 = 3", "part 1 = 3", "cut 0 1 true", "part -1 = 2",
            "part 0 = 1", "part 1 = 2");
        // A line 0-4-1-3-2 is one part; then each link of it goes.
        Boundary.terms(sentence, "sites 5", "part -1 = 1", "part 4 = 31", "cut 0 1 true", "cut 0 2 true", "cut 0 3 true",
            "cut 1 2 true", "cut 2 4 true", "cut 3 4 true", "part -1 = 1", "part 0 = 31", "part 2 = 31", "cut 1 3 true",
            "part -1 = 2", "part 0 = 19", "part 4 = 19", "part 2 = 12", "part 3 = 12", "cut 0 4 true", "part -1 = 3",
            "cut 1 4 true", "part -1 = 4", "part 4 = 16", "cut 2 3 true", "part -1 = 5", "part 2 = 4", "part 0 = 1",
            "count 13 = 10");
    }

    private static void steps() {
        String sentence = "STEPS: each call that does something to SITES, LETTERS, LINKS (add() to join(), but sites(), mode())"
            + " is one more; of chance() each of the n times that does something.";
        Boundary.terms(sentence, "count 12 = 0", "add 0 7", "count 12 = 1", "take 0 0", "count 12 = 2", "write 0 1",
            "count 12 = 3", "twice 0 1 0", "count 12 = 4", "come 0 1 0", "count 12 = 5", "lose 0 1 0", "count 12 = 6",
            "save 0", "count 12 = 7", "fall 0", "count 12 = 8", "join 0 1", "count 12 = 9", "cut 0 1 true", "count 12 = 10",
            "cut 0 1 true = false", "count 12 = 10", "mode 1", "count 12 = 10", "keep 0", "count 12 = 10", "chance 5 0 = 0",
            "count 12 = 10", "add 0 100 = Argument", "count 12 = 10", "sites 3", "count 12 = 0");
        // With 120 events, 12 letters each way and the link cut no chance does anything.
        Boundary.terms(sentence, "sites 2", "120 x add 0 7", "12 x write 0 1", "12 x write 1 0", "cut 0 1 true",
            "count 12 = 145", "chance 1 60 = 0", "chance 2 60 = 0", "chance 3 60 = 0", "count 12 = 145", "trace 0 1 = 9");
    }

    private static void whenAndBy() {
        String sentence = "WHEN a SITE came to HAVE an EVENT is the number of that STEP (the first is 1), BY whom: itself, if it"
            + " came there, else the SITE whose LETTER it was, by which it JOINED (when it FALLS: as SAVED).";
        Boundary.terms(sentence, "add 0 7", "came 0 0 0 = 1", "came 0 0 1 = 0", "came 1 0 0 = -1", "came 1 0 1 = -1",
            "send 0 1", "came 1 0 0 = 3", "came 1 0 1 = 0", "join 2 1", "came 2 0 0 = 4", "came 2 0 1 = 1", "save 2", "fall 1",
            "came 1 0 0 = -1", "join 2 1 = 0", "came 2 0 1 = -1", "send 0 2", "came 2 0 0 = 9", "came 2 0 1 = 0", "fall 2",
            "came 2 0 0 = 4", "came 2 0 1 = 1");
        Boundary.terms(sentence, "save 0", "sites 5", "add 4 7", "came 4 0 0 = 1", "came 4 0 1 = 4", "came 5 0 0 = Index",
            "came 4 1 0 = Index");
    }

    private static void ways() {
        String sentence = "WAY of an EVENT to a SITE that HAS it: that SITE, BY whom it came there, BY whom it came to that one"
            + " (as it is told now), and so on, till one to which it came by itself, or which HAS it not, or n of them.";
        Boundary.terms(sentence, "add 0 7", "way 0 0 -1 = 1", "way 0 0 0 = 0", "way 0 0 1 = -1", "way 1 0 -1 = -1",
            "way 1 0 0 = -1");
        Boundary.terms(sentence, "sites 5", "add 0 7", "send 0 1", "send 1 2", "send 2 3", "send 3 4", "way 4 0 -1 = 5",
            "way 4 0 0 = 4", "way 4 0 1 = 3", "way 4 0 4 = 0", "way 4 0 5 = -1", "fall 2", "way 4 0 -1 = 3", "way 4 0 2 = 2",
            "way 4 0 3 = -1", "way 2 0 -1 = -1");
        for (int n = 2; n <= 5; n++) {
            // It goes round between 0 and 1, so n of them end it.
            Boundary.terms(sentence, "sites " + n, "add 0 7", "send 0 1", "fall 0", "join 0 1", "way 0 0 -1 = " + n,
                "way 0 0 " + (n - 1) + " = " + (n - 1) % 2, "way 0 0 " + n + " = -1");
        }
    }

    private static void trace() {
        String sentence = "THE TRACE: the latest 32 STEPS: its number, what (0 add, 1 take, 2 write, 3 come, 4 lose, 5 twice,"
            + " 6 save, 7 fall, 8 join, 9 a LINK), the first SITE, what it answered (of LINKS 1); none ahead of the latest"
            + " sites(), back().";
        Boundary.terms(sentence, "trace 0 0 = Element", "31 x add 0 7", "trace 30 0 = 1", "trace 31 0 = Element", "add 1 7",
            "trace 31 0 = 1", "trace 32 0 = Element", "trace 0 0 = 32", "trace 0 2 = 1", "add 2 7", "trace 31 0 = 2",
            "trace 30 0 = 3", "trace 1 2 = 1", "trace 0 0 = 33", "trace 0 3 = 32", "trace 32 0 = Element", "trace -1 0 = Element");
        Boundary.terms(sentence, "63 x add 0 7", "trace 31 0 = 32", "add 0 7", "trace 31 0 = 33", "trace 0 0 = 64", "add 1 7",
            "trace 0 0 = 65", "trace 0 2 = 1", "trace 1 2 = 0", "trace 31 0 = 34", "trace 32 0 = Element", "sites 3",
            "trace 0 0 = Element", "add 2 7", "trace 0 0 = 1", "trace 1 0 = Element");
        Boundary.terms(sentence, "sites 5", "add 4 9", "take 4 0", "write 4 3", "come 4 3 0", "write 4 2", "twice 4 2 0",
            "lose 4 2 0", "save 3", "fall 4", "join 4 3", "cut 4 0 true", "keep 1", "mode 1",
            "trace 10 0 = 1", "trace 10 1 = 0", "trace 10 2 = 4", "trace 10 3 = 0", "trace 9 1 = 1", "trace 9 2 = 4",
            "trace 9 3 = 1", "trace 8 1 = 2", "trace 8 2 = 4", "trace 8 3 = 2", "trace 7 1 = 3", "trace 7 2 = 4",
            "trace 7 3 = 2", "trace 5 1 = 5", "trace 5 2 = 4", "trace 5 3 = 2", "trace 4 1 = 4", "trace 4 2 = 4",
            "trace 4 3 = 1", "trace 3 1 = 6", "trace 3 2 = 3", "trace 3 3 = 2", "trace 2 1 = 7", "trace 2 2 = 4",
            "trace 2 3 = 2", "trace 1 1 = 8", "trace 1 2 = 4", "trace 1 3 = 2", "trace 0 0 = 11", "trace 0 1 = 9",
            "trace 0 2 = 4", "trace 0 3 = 1", "trace 11 0 = Element", "cut 0 4 false", "trace 0 1 = 9", "trace 0 2 = 0",
            "trace 0 3 = 1", "back 1 = 2", "trace 0 0 = Element", "add 0 7", "trace 0 0 = 12", "trace 1 0 = Element");
        // A back() that is refused leaves the trace.
        Boundary.terms(sentence, "add 0 7", "back 0 = Element", "sites 6 = Argument", "trace 0 0 = 1");
    }

    /** Each call with all wrong, then with one wrong less, and so on: the first of these in that order. */
    private static void refused() {
        String sentence = "All that can't be does nothing: no such SITE, EVENT: IndexOutOfBoundsException; no such LETTER,"
            + " ELEMENT, IMAGE: NoSuchElementException; no room: IllegalStateException; another number that can't be:"
            + " IllegalArgumentException; the first of these in that order (both SITES being one: the first).";
        Boundary.terms(sentence, "120 x add 0 7", "add 3 100 = Index", "add 0 100 = State", "add 0 99 = State",
            "take 3 120 = Index", "take 0 120 = Element", "take 1 0 = Element", "take 0 0 = State");
        Boundary.terms(sentence, "12 x write 0 1", "cut 0 1 true", "write 0 0 = Index", "write 0 3 = Index",
            "write 0 1 = State", "come 0 0 12 = Index", "come 0 1 12 = Element", "come 0 1 0 = State", "lose 1 1 12 = Index",
            "lose 0 1 12 = Element", "twice 1 1 12 = Index", "twice 0 1 12 = Element", "twice 0 1 11 = State",
            "letter 1 1 12 3 = Index", "letter 0 1 12 3 = Element", "letter 0 1 11 3 = Argument", "inLetter 1 1 12 0 = Index",
            "inLetter 0 1 12 0 = Element", "inLetter 0 1 11 0 = Element");
        Boundary.terms(sentence, "add 0 7", "view 3 1 2 = Index", "view 0 1 2 = Element", "view 0 0 2 = Argument",
            "named 3 100 3 = Index", "named 0 100 3 = Argument", "site 3 8 = Index", "site 0 8 = Argument",
            "would 1 1 3 = Index", "would 0 1 3 = Argument", "event 1 9 = Index", "event 0 9 = Argument", "came 3 1 2 = Index",
            "came 0 1 2 = Index", "came 0 0 2 = Argument", "sure 3 4 = Index", "sure 0 4 = Argument", "trace 1 4 = Element",
            "trace 0 4 = Argument", "falling 3 4 = Index", "falling 0 4 = Argument", "joining 0 0 4 = Index",
            "joining 0 1 4 = Argument", "back 2 = Argument", "back 1 = Element", "chance -1 61 = Argument");
        bothSitesBeingOne(sentence);
    }

    private static void bothSitesBeingOne(String sentence) {
        Lines lines = Lines.of("add 0 7", "write 0 1", "write 1 0");
        for (String call : new String[] {"write #", "come # 0", "lose # 0", "twice # 0", "waiting #", "letter # 0 0",
            "inLetter # 0 0", "join #", "cut # true", "cut # false", "unlike #", "would # 0", "only # 0", "joining # 0"}) {
            lines.each(call, "Index", "0 0", "1 1", "2 2", "3 3", "-1 -1");
        }
        Boundary.terms(sentence, lines.all());
        Boundary.terms(sentence, "add 0 7", "table 1 1 1 = 0", "knows 1 1 0 = false", "ahead 0 0 = false", "between 0 0 = 0");
    }

    private static void draws() {
        String sentence = "A DRAW of m: x (at first the seed that is told) becomes (1103515245 x + 12345) mod 2 to the 31;"
            + " floor(x / 64) mod m.";
        // Seeds at both ends, those whose product passes 2 to the 31 or not, and each number of sites.
        for (int n = 2; n <= 5; n++) {
            Lines start = Lines.of("sites " + n, "add 0 7", "add 1 8", "write 0 1", "write 1 0");
            for (int i = 0; i < 12; i++) {
                for (int seed : new int[] {i, Integer.MAX_VALUE - i, 1 << i + 12, 1103515245 + i}) {
                    Boundary.asByHand("Terms", sentence, start, seed, 3);
                }
            }
        }
    }

    private static void none() {
        Boundary.terms("The constants: `NONE = -1`: There is none.", "count 14 = -1", "wide 2 = -1", "slowest 0 = -1");
        Check.due("NONE", -1, () -> GossipTables.NONE);
    }
}
