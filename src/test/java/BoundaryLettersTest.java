/** The boundary cases of promises 1 to 12, sentence by sentence. */
public final class BoundaryLettersTest {
    public static void main(String[] args) {
        newObject();
        sites();
        mode();
        add();
        take();
        write();
        come();
        lose();
        twice();
        waiting();
        letter();
        inLetter();
        Boundary.promisesAreQuoted(1, 12);
        Check.end();
    }

    /** The start, then the call with each couple of sites that can't be in the place of #. */
    private static String[] noCouples(String call, String... start) {
        return Lines.of(start).each(call, "Index", Lines.NO_COUPLES).all();
    }

    /** Twelve letters from 0 to 1, with 0, 1, 2 .. 11 events. */
    private static Lines risingLetters() {
        Lines lines = new Lines();
        for (int events = 0; events < 12; events++) {
            lines.and("write 0 1 = " + events, "add 0 7");
        }
        return lines;
    }

    private static void newObject() {
        String sentence = "Three SITES, MODE 0, nothing came.";
        Boundary.promise(1, sentence, "count 0 = 3", "count 1 = 0", "count 2 = 0", "count 3 = 0", "count 4 = 0", "count 5 = 0",
            "count 6 = 0", "count 7 = 0", "count 8 = -1", "count 9 = 0", "count 10 = 0", "count 11 = 1", "count 12 = 0",
            "count 13 = 0", "count 14 = -1", "count -1 = -1");
        Boundary.promise(1, sentence, "site 0 0 = 0", "site 2 7 = 0", "site 3 0 = Index", "view 0 0 0 = Element",
            "log 0 0 = Element", "event 0 0 = Index", "trace 0 0 = Element", "back 0 = Element", "back 1 = Element",
            "waiting 0 2 = 0", "part -1 = 1", "part 2 = 7", "front 0 -1 = 0", "fall 0 = 0", "wide 1 = 0", "mode 1 = 0");
    }

    private static void sites() {
        String sentence = "n SITES anew, all as at first (MODE stays; IMAGES stay): n.";
        String[] much = {"mode 2", "add 0 7", "take 0 0", "add 2 9", "send 0 1", "write 2 1", "save 0", "save 2", "fall 1",
            "cut 0 2 true", "join 1 2", "chance 4 60"};
        for (int n = 2; n <= 5; n++) {
            Boundary.alike(2, sentence, Lines.of(much).and("sites " + n), Lines.of("mode 2", "sites " + n));
        }
        Boundary.promise(2, sentence, "mode 1", "add 0 7", "keep 0 = 1", "sites 4 = 4", "count 1 = 1", "back 1 = Element",
            "keep 1 = 0", "sites 2 = 2", "back 0 = 1", "count 0 = 3", "has 0 0 = true", "back 1 = 0", "count 0 = 4");
        // All of five sites, full, is gone.
        Boundary.alike(2, sentence, Lines.of("sites 5", "120 x add 4 99", "12 x write 4 0", "save 4", "cut 3 4 true", "sites 5"),
            Lines.of("sites 5"));
        Boundary.promise(2, "IllegalArgumentException.", "add 0 7", "write 0 1", "keep 0", "sites 1 = Argument",
            "sites 6 = Argument", "sites 0 = Argument", "sites -1 = Argument", "sites MIN = Argument", "sites MAX = Argument",
            "sites 5 = 5", "sites 6 = Argument", "sites 2 = 2", "sites 1 = Argument", "count 0 = 2");
    }

    private static void mode() {
        Boundary.promise(3, "MODE (0 .. 2): what it was.", "mode 0 = 0", "mode 1 = 0", "mode 2 = 1", "mode 2 = 2", "mode 0 = 2",
            "count 1 = 0", "count 12 = 0");
        Boundary.promise(3, "IllegalArgumentException.", "mode 1 = 0", "mode 3 = Argument", "mode -1 = Argument",
            "mode MIN = Argument", "mode MAX = Argument", "mode 1 = 1", "mode 2 = 1", "mode 3 = Argument", "mode 0 = 2",
            "mode -1 = Argument", "count 1 = 0");
    }

    private static void add() {
        Boundary.promise(4, "An IN at a SITE: its MARK.", "add 0 0 = 0", "add 2 99 = 1", "add 0 0 = 2", "117 x add 1 50",
            "count 2 = 120", "view 1 116 0 = 119");
        Boundary.promise(4, "IndexOutOfBoundsException;", "add 0 7", "add 3 0 = Index", "add -1 0 = Index", "add MIN 0 = Index",
            "add MAX 0 = Index", "add 3 100 = Index", "add 2 0 = 1", "sites 5", "add 5 0 = Index", "add 4 0 = 0", "sites 2",
            "add 2 0 = Index", "add 1 0 = 0");
        Boundary.promise(4, "IllegalStateException: there are 120;", "119 x add 0 7", "add 0 100 = Argument", "add 2 7 = 119",
            "add 2 7 = State", "add 0 0 = State", "add 1 99 = State", "add 0 100 = State", "add 0 -1 = State", "add 3 7 = Index",
            "count 2 = 120");
        Boundary.promise(4, "IllegalArgumentException: the NAME.", "add 0 0 = 0", "add 0 99 = 1", "add 0 100 = Argument",
            "add 0 -1 = Argument", "add 0 MIN = Argument", "add 0 MAX = Argument", "event 1 4 = 99", "count 2 = 2",
            "site 0 0 = 2");
    }

    private static void take() {
        Boundary.promise(5, "An OUT at a SITE: the EVENT's number.", "add 0 7", "take 0 0 = 1", "event 1 2 = 1", "site 0 1 = 0",
            "117 x add 0 7", "take 0 118 = 119", "event 119 3 = 118", "site 0 1 = 116", "site 0 0 = 120");
        // Around the 64th and the 65th element.
        Boundary.promise(5, "An OUT at a SITE: the EVENT's number.", "70 x add 0 7", "take 0 64 = 70", "view 0 0 0 = 0",
            "view 0 63 0 = 63", "view 0 64 0 = 65", "site 0 1 = 69", "take 0 63 = 71", "view 0 62 0 = 62", "view 0 63 0 = 65",
            "take 0 65 = 72", "take 0 0 = 73", "view 0 0 0 = 1", "site 0 1 = 66");
        Boundary.promise(5, "IndexOutOfBoundsException;", "add 0 7", "take 3 0 = Index", "take -1 0 = Index",
            "take MIN 0 = Index", "take MAX 0 = Index", "take 3 9 = Index", "take 0 0 = 1");
        Boundary.promise(5, "NoSuchElementException: the ELEMENT is not in its VIEW;", "take 0 0 = Element", "2 x add 0 7",
            "take 0 -1 = Element", "take 0 2 = Element", "take 0 MIN = Element", "take 0 MAX = Element", "take 0 64 = Element",
            "take 0 120 = Element", "take 0 128 = Element", "take 1 0 = Element", "take 0 1 = 2", "take 0 1 = Element",
            "take 0 2 = Element", "take 0 0 = 3", "take 0 0 = Element", "site 0 1 = 0");
        // Taken away by one site, it is in the view of another one still; a site that fell has it not any more.
        Boundary.promise(5, "NoSuchElementException: the ELEMENT is not in its VIEW;", "add 0 7", "send 0 1", "take 0 0 = 1",
            "take 1 0 = 2", "take 1 0 = Element", "send 0 1", "take 1 0 = Element", "add 0 7", "fall 0", "take 0 3 = Element");
        Boundary.promise(5, "IllegalStateException: there are 120.", "119 x add 0 7", "take 0 0 = 119", "take 0 1 = State",
            "take 0 0 = Element", "take 0 119 = Element", "take 1 1 = Element", "take 3 1 = Index", "take 0 118 = State",
            "view 0 0 0 = 1", "site 0 1 = 118");
    }

    private static void write() {
        Boundary.promise(6, "A LETTER is written: how many EVENTS it has.", "write 0 1 = 0", "count 4 = 1", "count 5 = 0",
            "add 0 7", "write 0 1 = 1", "count 4 = 2", "count 5 = 1", "letter 0 1 0 0 = 0", "letter 0 1 1 0 = 1");
        Boundary.promise(6, "A LETTER is written: how many EVENTS it has.", "sites 5", "120 x add 4 7", "write 4 3 = 120",
            "count 5 = 120", "letter 4 3 0 0 = 120");
        Boundary.promise(6, "IndexOutOfBoundsException;", noCouples("write #", "add 0 7", "12 x write 0 1", "cut 0 2 true"));
        Boundary.promise(6, "IllegalStateException: 12 wait there, the LINK is CUT.", "11 x write 2 1", "write 2 1 = 0",
            "write 2 1 = State", "write 1 2 = 0", "write 2 0 = 0", "lose 2 1 11 = 11", "write 2 1 = 0", "write 2 1 = State",
            "count 4 = 15", "come 2 1 0 = 0", "write 2 1 = 0", "write 2 1 = State");
        Boundary.promise(6, "IllegalStateException: 12 wait there, the LINK is CUT.", "write 0 1 = 0", "cut 1 0 true",
            "write 0 1 = State", "write 1 0 = State", "write 0 2 = 0", "write 2 1 = 0", "cut 0 1 false", "write 0 1 = 0",
            "count 4 = 4");
    }

    private static void come() {
        String sentence = "The k-th LETTER that waits (0 the first) COMES, and is gone: how many of its EVENTS were NEW.";
        // The first, the last, one in the middle.
        Boundary.promise(7, sentence, risingLetters().and("come 0 1 12 = Element", "come 0 1 0 = 0", "come 0 1 11 = Element",
            "letter 0 1 0 0 = 1", "come 0 1 10 = 11", "waiting 0 1 = 10", "letter 0 1 9 0 = 10", "come 0 1 4 = 0",
            "letter 0 1 3 0 = 4", "letter 0 1 4 0 = 6", "count 6 = 5").all());
        // Those that stay are as they were, though another one is written since.
        Boundary.promise(7, sentence, risingLetters().and("come 0 1 0 = 0", "come 0 1 0 = 1", "write 0 1 = 12", "write 0 1 = 12",
            "letter 0 1 9 0 = 11", "letter 0 1 0 0 = 2", "letter 0 1 11 0 = 12", "come 0 1 9 = 10", "letter 0 1 8 0 = 10").all());
        Boundary.promise(7, sentence, "120 x add 0 7", "write 0 1", "come 0 1 0 = 120", "waiting 0 1 = 0", "come 0 1 0 = Element",
            "site 1 3 = 120", "site 1 1 = 120", "write 0 1", "come 0 1 0 = 0", "count 6 = 120");
        Boundary.promise(7, "IndexOutOfBoundsException; NoSuchElementException; IllegalStateException: the LINK is CUT.",
            noCouples("come # 0", "add 0 7", "write 0 1", "write 1 0", "cut 0 1 true"));
        Boundary.promise(7, "IndexOutOfBoundsException; NoSuchElementException; IllegalStateException: the LINK is CUT.",
            "add 0 7", "come 0 1 0 = Element", "write 0 1", "come 0 1 1 = Element", "come 0 1 -1 = Element",
            "come 0 1 MIN = Element", "come 0 1 MAX = Element", "come 1 0 0 = Element", "come 0 2 0 = Element", "cut 0 1 true",
            "come 0 1 1 = Element", "come 0 1 -1 = Element", "come 0 1 0 = State", "waiting 0 1 = 1", "has 1 0 = false",
            "cut 0 1 false", "come 0 1 0 = 1");
    }

    private static void lose() {
        String sentence = "The k-th LETTER that waits is gone: how many wait there then.";
        Boundary.promise(8, sentence, risingLetters().and("lose 0 1 12 = Element", "lose 0 1 11 = 11", "letter 0 1 10 0 = 10",
            "lose 0 1 11 = Element", "lose 0 1 0 = 10", "letter 0 1 0 0 = 1", "lose 0 1 4 = 9", "letter 0 1 3 0 = 4",
            "letter 0 1 4 0 = 6", "7 x lose 0 1 1", "waiting 0 1 = 2", "letter 0 1 1 0 = 10", "lose 0 1 1 = 1", "lose 0 1 0 = 0",
            "lose 0 1 0 = Element", "site 1 3 = 0", "count 6 = 0", "count 4 = 12").all());
        Boundary.promise(8, sentence, "write 0 1 = 0", "add 0 7", "write 0 1 = 1", "lose 0 1 0 = 1", "add 0 7", "write 0 1 = 2",
            "letter 0 1 0 0 = 1", "letter 0 1 1 0 = 2", "lose 0 1 1 = 1", "add 0 7", "write 0 1 = 3", "letter 0 1 0 0 = 1",
            "come 0 1 1 = 3", "letter 0 1 0 2 = 1");
        Boundary.promise(8, "Likewise.", noCouples("lose # 0", "write 0 1", "write 1 0"));
        Boundary.promise(8, "Likewise.", "lose 0 1 0 = Element", "write 0 1", "lose 0 1 1 = Element", "lose 0 1 -1 = Element",
            "lose 0 1 MIN = Element", "lose 0 1 MAX = Element", "lose 1 0 0 = Element", "lose 0 2 0 = Element", "cut 0 1 true",
            "lose 0 1 1 = Element", "lose 0 1 0 = 0");
    }

    private static void twice() {
        String sentence = "The k-th LETTER that waits is there twice: the other one waits last: how many wait there then.";
        Boundary.promise(9, sentence, "write 0 1", "add 0 7", "mode 1", "write 0 1", "twice 0 1 0 = 3", "letter 0 1 2 0 = 0",
            "letter 0 1 2 1 = 0", "twice 0 1 1 = 4", "letter 0 1 3 0 = 1", "letter 0 1 3 1 = 1", "inLetter 0 1 3 0 = 0",
            "letter 0 1 0 0 = 0", "count 4 = 2", "count 5 = 1", "come 0 1 3 = 1", "come 0 1 1 = 0", "waiting 0 1 = 2");
        Boundary.promise(9, sentence, "120 x add 0 7", "write 0 1", "twice 0 1 0 = 2", "letter 0 1 1 0 = 120",
            "inLetter 0 1 1 119 = 119", "lose 0 1 0 = 1", "letter 0 1 0 0 = 120", "inLetter 0 1 0 119 = 119", "come 0 1 0 = 120");
        // The other one is from the same site to the same one, with the same table.
        Boundary.promise(9, sentence, "sites 5", "add 4 7", "write 4 3", "twice 4 3 0 = 2", "lose 4 3 0 = 1", "come 4 3 0 = 1",
            "came 3 0 1 = 4", "table 3 4 4 = 1", "table 3 3 4 = 1", "table 3 0 4 = 0", "log 3 0 = 0", "view 3 0 0 = 0");
        Boundary.promise(9, "Likewise;", noCouples("twice # 0", "write 0 1", "write 1 0"));
        Boundary.promise(9, "Likewise;", "twice 0 1 0 = Element", "write 0 1", "twice 0 1 1 = Element", "twice 0 1 -1 = Element",
            "twice 0 1 MIN = Element", "twice 0 1 MAX = Element", "twice 1 0 0 = Element", "twice 0 2 0 = Element",
            "cut 0 1 true", "twice 0 1 0 = 2");
        Boundary.promise(9, "IllegalStateException: 12 wait there.", "10 x write 0 1", "twice 0 1 9 = 11", "twice 0 1 10 = 12",
            "twice 0 1 0 = State", "twice 0 1 11 = State", "twice 0 1 12 = Element", "write 0 2", "twice 0 2 0 = 2",
            "come 0 1 5 = 0", "twice 0 1 0 = 12", "twice 0 1 0 = State");
    }

    private static void waiting() {
        Boundary.promise(10, "How many LETTERS wait.", "waiting 0 1 = 0", "write 0 1", "waiting 0 1 = 1", "waiting 1 0 = 0",
            "waiting 0 2 = 0", "10 x write 0 1", "waiting 0 1 = 11", "twice 0 1 0", "waiting 0 1 = 12", "write 0 1 = State",
            "waiting 0 1 = 12", "cut 0 1 true", "waiting 0 1 = 12", "12 x lose 0 1 0", "waiting 0 1 = 0");
        Boundary.promise(10, "IndexOutOfBoundsException.", noCouples("waiting #", "write 0 1"));
        Boundary.promise(10, "IndexOutOfBoundsException.", "sites 5", "write 4 3", "waiting 4 3 = 1", "waiting 3 4 = 0",
            "waiting 4 5 = Index", "waiting 5 4 = Index", "sites 2", "waiting 1 0 = 0", "waiting 1 2 = Index");
    }

    private static void letter() {
        String sentence = "Of the k-th LETTER that waits: 0 how many EVENTS, 1 its MODE, 2 how many of these the SITE to which it"
            + " goes HAS already.";
        Boundary.promise(11, sentence, "write 0 1", "letter 0 1 0 0 = 0", "letter 0 1 0 1 = 0", "letter 0 1 0 2 = 0", "mode 2",
            "118 x add 0 7", "write 0 1", "letter 0 1 1 0 = 118", "letter 0 1 1 1 = 2", "letter 0 1 1 2 = 0", "twice 0 1 1",
            "come 0 1 1 = 118", "letter 0 1 1 2 = 118", "2 x add 0 7", "write 0 1 = 120", "letter 0 1 2 0 = 120",
            "letter 0 1 2 2 = 118", "fall 1", "letter 0 1 2 2 = 0", "letter 0 1 2 1 = 2");
        String refused = "IndexOutOfBoundsException; NoSuchElementException; IllegalArgumentException: another what.";
        Boundary.promise(11, refused, noCouples("letter # 0 0", "write 0 1", "write 1 0"));
        Boundary.promise(11, refused, "letter 0 1 0 0 = Element", "11 x write 0 1", "letter 0 1 10 0 = 0",
            "letter 0 1 11 0 = Element", "write 0 1", "letter 0 1 11 0 = 0", "letter 0 1 12 0 = Element",
            "letter 0 1 -1 0 = Element", "letter 0 1 MIN 0 = Element", "letter 0 1 MAX 0 = Element", "letter 0 1 12 3 = Element",
            "letter 1 0 0 0 = Element", "letter 0 1 11 3 = Argument", "letter 0 1 0 3 = Argument", "letter 0 1 0 -1 = Argument",
            "letter 0 1 0 MIN = Argument", "letter 0 1 0 MAX = Argument", "letter 0 0 0 3 = Index");
    }

    private static void inLetter() {
        String sentence = "The i-th EVENT in the k-th LETTER that waits.";
        Boundary.promise(12, sentence, "add 1 7", "add 0 7", "send 1 0", "write 0 2 = 2", "inLetter 0 2 0 0 = 1",
            "inLetter 0 2 0 1 = 0", "take 0 0", "write 0 2 = 3", "inLetter 0 2 1 2 = 2", "inLetter 0 2 0 2 = Element");
        Boundary.promise(12, sentence, "119 x add 0 7", "write 0 1 = 119", "inLetter 0 1 0 118 = 118",
            "inLetter 0 1 0 119 = Element", "add 0 7", "write 0 1 = 120", "inLetter 0 1 1 119 = 119",
            "inLetter 0 1 1 120 = Element", "inLetter 0 1 0 119 = Element", "inLetter 0 1 1 0 = 0");
        String refused = "IndexOutOfBoundsException; NoSuchElementException (the EVENT, too).";
        Boundary.promise(12, refused, noCouples("inLetter # 0 0", "add 0 7", "write 0 1", "write 1 0"));
        Boundary.promise(12, refused, "inLetter 0 1 0 0 = Element", "write 0 1", "inLetter 0 1 0 0 = Element", "add 0 7",
            "write 0 1", "inLetter 0 1 1 0 = 0", "inLetter 0 1 1 1 = Element", "inLetter 0 1 1 -1 = Element",
            "inLetter 0 1 1 MIN = Element", "inLetter 0 1 1 MAX = Element", "inLetter 0 1 2 0 = Element",
            "inLetter 0 1 -1 0 = Element", "inLetter 0 1 MIN 0 = Element", "inLetter 0 1 MAX 0 = Element",
            "inLetter 1 0 0 0 = Element");
    }
}
