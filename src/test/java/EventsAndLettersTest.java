/** Promises 1 to 12: a new object, sites, mode, events, letters. */
public final class EventsAndLettersTest {
    private static final String INDEX = "IndexOutOfBoundsException";
    private static final String ELEMENT = "NoSuchElementException";
    private static final String STATE = "IllegalStateException";
    private static final String ARGUMENT = "IllegalArgumentException";

    public static void main(String[] args) {
        newObject();
        sites();
        mode();
        add();
        take();
        write();
        comeWithTable();
        comeWithRow();
        comeWithNothing();
        comeDropsFromLog();
        comeThrows();
        lose();
        twice();
        waiting();
        letter();
        inLetter();
        Check.end();
    }

    private static GossipTables withEvents(int number) {
        GossipTables g = new GossipTables();
        for (int i = 0; i < number; i++) {
            g.add(0, i % 100);
        }
        return g;
    }

    private static void newObject() {
        GossipTables g = new GossipTables();
        int[] due = {3, 0, 0, 0, 0, 0, 0, 0, -1, 0, 0, 1, 0, 0, -1};
        for (int what = 0; what < due.length; what++) {
            int w = what;
            Check.due("1: count " + w, due[w], () -> g.count(w));
        }
        Check.due("1: no fourth site", INDEX, () -> g.site(3, 0));
        Check.due("1: a cell", 0, () -> g.table(2, 2, 2));
    }

    private static void sites() {
        GossipTables g = withEvents(3);
        g.mode(1);
        g.write(0, 1);
        g.save(0);
        g.cut(1, 2, true);
        g.keep(0);
        for (int wrong : new int[] {1, 6, -1, Integer.MAX_VALUE, Integer.MIN_VALUE}) {
            Check.due("2: sites " + wrong, ARGUMENT, () -> g.sites(wrong));
        }
        Check.due("2: a wrong one does nothing", 3, () -> g.count(2));
        Check.due("2: sites 5", 5, () -> g.sites(5));
        int[] due = {5, 1, 0, 0, 0, 0, 0, 0, -1, 0, 0, 1, 0, 0};
        for (int what = 0; what < due.length; what++) {
            int w = what;
            Check.due("2: then count " + w, due[w], () -> g.count(w));
        }
        Check.due("2: clock", 0, () -> g.site(0, 0));
        Check.due("2: no trace", ELEMENT, () -> g.trace(0, 0));
        Check.due("2: saved is as at first", 0, () -> g.falling(0, 0));
        Check.due("2: first mark", 0, () -> g.add(4, 1));
        Check.due("2: images stay", 3, () -> g.back(0));
        Check.due("2: sites 2", 2, () -> g.sites(2));
        Check.due("2: no third site", INDEX, () -> g.add(2, 0));
    }

    private static void mode() {
        GossipTables g = new GossipTables();
        Check.due("3: was 0", 0, () -> g.mode(2));
        Check.due("3: was 2", 2, () -> g.mode(1));
        Check.due("3: 3", ARGUMENT, () -> g.mode(3));
        Check.due("3: -1", ARGUMENT, () -> g.mode(-1));
        Check.due("3: stays", 1, () -> g.count(1));
        Check.due("3: no step", 0, () -> g.count(12));
    }

    private static void add() {
        GossipTables g = new GossipTables();
        Check.due("4: first mark", 0, () -> g.add(2, 99));
        Check.due("4: next mark", 1, () -> g.add(0, 0));
        Check.due("4: clock", 1, () -> g.site(2, 0));
        Check.due("4: own cell", 1, () -> g.table(2, 2, 2));
        Check.due("4: log", 0, () -> g.log(2, 0));
        Check.due("4: view", 99, () -> g.view(2, 0, 1));
        Check.due("4: has", true, () -> g.has(2, 0));
        Check.due("4: name 100", ARGUMENT, () -> g.add(0, 100));
        Check.due("4: name -1", ARGUMENT, () -> g.add(0, -1));
        Check.due("4: site 3, name 100", INDEX, () -> g.add(3, 100));
        Check.due("4: site -1", INDEX, () -> g.add(-1, 0));
        Check.due("4: nothing done", 2, () -> g.count(12));
        GossipTables full = withEvents(119);
        Check.due("4: the last one", 119, () -> full.add(1, 5));
        Check.due("4: 120", STATE, () -> full.add(0, 5));
        Check.due("4: 120, name", STATE, () -> full.add(0, 100));
        Check.due("4: 120, site", INDEX, () -> full.add(3, 5));
        Check.due("4: 120 events", 120, () -> full.count(2));
    }

    private static void take() {
        GossipTables g = withEvents(3);
        Check.due("5: out", 3, () -> g.take(0, 1));
        Check.due("5: gone", 2, () -> g.site(0, 1));
        Check.due("5: next in view", 2, () -> g.view(0, 1, 0));
        Check.due("5: clock", 4, () -> g.site(0, 0));
        Check.due("5: in log", 3, () -> g.log(0, 3));
        Check.due("5: again", ELEMENT, () -> g.take(0, 1));
        Check.due("5: not at that site", ELEMENT, () -> g.take(1, 0));
        Check.due("5: an out's number", ELEMENT, () -> g.take(0, 3));
        for (int wrong : new int[] {4, -1, 64, 120, 128, Integer.MAX_VALUE, Integer.MIN_VALUE}) {
            Check.due("5: mark " + wrong, ELEMENT, () -> g.take(0, wrong));
        }
        Check.due("5: site", INDEX, () -> g.take(3, 0));
        GossipTables full = withEvents(120);
        Check.due("5: 120", STATE, () -> full.take(0, 119));
        Check.due("5: 120, no element", ELEMENT, () -> full.take(1, 119));
        Check.due("5: stays in view", 119, () -> full.view(0, 119, 0));
    }

    private static void write() {
        GossipTables g = withEvents(2);
        Check.due("6: events", 2, () -> g.write(0, 1));
        Check.due("6: nothing to tell", 0, () -> g.write(1, 0));
        Check.due("6: letters are made of the log, not of news", 2, () -> g.write(0, 1));
        Check.due("6: one site", INDEX, () -> g.write(1, 1));
        Check.due("6: from", INDEX, () -> g.write(3, 1));
        Check.due("6: to", INDEX, () -> g.write(1, -1));
        for (int i = 2; i < 12; i++) {
            g.write(0, 1);
        }
        Check.due("6: 12 wait", STATE, () -> g.write(0, 1));
        Check.due("6: not for others", 2, () -> g.write(0, 2));
        g.cut(2, 0, true);
        Check.due("6: cut", STATE, () -> g.write(0, 2));
        Check.due("6: cut both ways", STATE, () -> g.write(2, 0));
        Check.due("6: letters written", 14, () -> g.count(4));
        Check.due("6: carried", 26, () -> g.count(5));
        GossipTables h = withEvents(1);
        Check.send(h, 0, 1);
        Check.send(h, 1, 0);
        Check.due("6: what is known is left out", 0, () -> h.write(0, 1));
        Check.due("6: but not to others", 1, () -> h.write(0, 2));
    }

    private static void comeWithTable() {
        GossipTables g = new GossipTables();
        g.add(0, 1);
        g.add(0, 2);
        Check.send(g, 0, 1);
        g.add(1, 3);
        g.take(1, 0);
        g.write(1, 2);
        Check.due("7: all new", 4, () -> g.come(1, 2, 0));
        Check.due("7: gone", 0, () -> g.waiting(1, 2));
        Check.due("7: view without what was taken away", 2, () -> g.site(2, 1));
        Check.due("7: least", 1, () -> g.view(2, 0, 0));
        Check.due("7: greatest", 2, () -> g.view(2, 1, 0));
        Check.due("7: what all know is not in the log", 2, () -> g.log(2, 0));
        Check.due("7: log in order", 3, () -> g.log(2, 1));
        Check.due("7: no more in the log", 2, () -> g.site(2, 2));
        int[][] due = {{2, 0, 0}, {2, 2, 0}, {2, 2, 0}};
        dueTable("7: mode 0", g, 2, due);
    }

    private static void comeWithRow() {
        GossipTables g = new GossipTables();
        g.add(0, 1);
        Check.send(g, 0, 1);
        g.add(1, 2);
        g.mode(1);
        g.write(1, 2);
        g.mode(0);
        Check.due("7: row", 2, () -> g.come(1, 2, 0));
        dueTable("7: mode 1", g, 2, new int[][] {{0, 0, 0}, {1, 1, 0}, {1, 1, 0}});
    }

    private static void comeWithNothing() {
        GossipTables g = new GossipTables();
        g.add(0, 1);
        Check.send(g, 0, 1);
        Check.send(g, 1, 0);
        g.add(0, 2);
        g.mode(2);
        g.write(0, 1);
        g.mode(0);
        g.add(0, 3);
        Check.due("7: letters have what was there as they were written", 1, () -> g.come(0, 1, 0));
        dueTable("7: mode 2", g, 1, new int[][] {{2, 0, 0}, {2, 0, 0}, {0, 0, 0}});
        g.mode(2);
        Check.send(g, 0, 2);
        dueTable("7: mode 2, a third site", g, 2, new int[][] {{3, 0, 0}, {0, 0, 0}, {3, 0, 0}});
    }

    private static void dueTable(String what, GossipTables g, int site, int[][] due) {
        for (int row = 0; row < due.length; row++) {
            for (int at = 0; at < due.length; at++) {
                int r = row;
                int a = at;
                Check.due(what + ", cell " + r + " " + a, due[r][a], () -> g.table(site, r, a));
            }
        }
    }

    private static void comeDropsFromLog() {
        GossipTables g = new GossipTables();
        g.sites(2);
        g.add(0, 1);
        Check.due("7: in its log", 1, () -> g.site(0, 2));
        Check.send(g, 0, 1);
        Check.due("7: known to both: not in the log", 0, () -> g.site(1, 2));
        Check.due("7: the sender does not know that", 1, () -> g.site(0, 2));
        Check.send(g, 1, 0);
        Check.due("7: it does then", 0, () -> g.site(0, 2));
        g.add(0, 2);
        g.add(0, 3);
        g.write(0, 1);
        g.add(0, 4);
        g.write(0, 1);
        Check.due("7: the later one ahead", 3, () -> g.come(0, 1, 1));
        Check.due("7: the earlier one tells nothing", 0, () -> g.come(0, 1, 0));
        Check.due("7: not new", 2, () -> g.count(6));
    }

    private static void comeThrows() {
        GossipTables g = withEvents(1);
        g.write(0, 1);
        Check.due("7: k 1", ELEMENT, () -> g.come(0, 1, 1));
        Check.due("7: k -1", ELEMENT, () -> g.come(0, 1, -1));
        Check.due("7: other way", ELEMENT, () -> g.come(1, 0, 0));
        Check.due("7: one site", INDEX, () -> g.come(0, 0, 0));
        Check.due("7: site", INDEX, () -> g.come(0, 3, 0));
        g.cut(0, 1, true);
        Check.due("7: cut, none", ELEMENT, () -> g.come(0, 1, 1));
        Check.due("7: cut", STATE, () -> g.come(0, 1, 0));
        Check.due("7: stays", 1, () -> g.waiting(0, 1));
        g.cut(0, 1, false);
        Check.due("7: not cut any more", 1, () -> g.come(0, 1, 0));
    }

    private static void lose() {
        GossipTables g = withEvents(1);
        g.write(0, 1);
        g.add(0, 7);
        g.write(0, 1);
        g.add(0, 8);
        g.write(0, 1);
        Check.due("8: k 3", ELEMENT, () -> g.lose(0, 1, 3));
        Check.due("8: k -1", ELEMENT, () -> g.lose(0, 1, -1));
        Check.due("8: one site", INDEX, () -> g.lose(1, 1, 0));
        Check.due("8: site", INDEX, () -> g.lose(0, 5, 0));
        g.cut(0, 1, true);
        Check.due("8: the middle one, though cut", 2, () -> g.lose(0, 1, 1));
        Check.due("8: the first is there", 1, () -> g.letter(0, 1, 0, 0));
        Check.due("8: the third is the second", 3, () -> g.letter(0, 1, 1, 0));
        Check.due("8: again", 1, () -> g.lose(0, 1, 0));
        Check.due("8: the third is the first", 3, () -> g.letter(0, 1, 0, 0));
        Check.due("8: none", 0, () -> g.lose(0, 1, 0));
        Check.due("8: nothing came", 0, () -> g.site(1, 3));
    }

    private static void twice() {
        GossipTables g = withEvents(1);
        g.write(0, 1);
        g.add(0, 7);
        g.write(0, 1);
        Check.due("9: the first twice", 3, () -> g.twice(0, 1, 0));
        Check.due("9: it waits last", 1, () -> g.letter(0, 1, 2, 0));
        Check.due("9: k", ELEMENT, () -> g.twice(0, 1, 3));
        Check.due("9: one site", INDEX, () -> g.twice(0, 0, 0));
        Check.due("9: site", INDEX, () -> g.twice(-1, 0, 0));
        g.cut(0, 1, true);
        for (int i = 4; i <= 12; i++) {
            int due = i;
            Check.due("9: till 12", due, () -> g.twice(0, 1, 1));
        }
        Check.due("9: 12 wait", STATE, () -> g.twice(0, 1, 0));
        Check.due("9: 12 wait, no such one", ELEMENT, () -> g.twice(0, 1, 12));
        Check.due("9: none was written", 2, () -> g.count(4));
        g.cut(0, 1, false);
        Check.due("9: one comes", 1, () -> g.come(0, 1, 0));
        Check.due("9: its other one tells nothing", 0, () -> g.come(0, 1, 1));
        Check.due("9: the rest is there", 1, () -> g.come(0, 1, 0));
    }

    private static void waiting() {
        GossipTables g = withEvents(1);
        g.write(0, 2);
        Check.due("10: one", 1, () -> g.waiting(0, 2));
        Check.due("10: not the other way", 0, () -> g.waiting(2, 0));
        Check.due("10: one site", INDEX, () -> g.waiting(2, 2));
        Check.due("10: site", INDEX, () -> g.waiting(0, 3));
        Check.due("10: site", INDEX, () -> g.waiting(-1, 0));
    }

    private static void letter() {
        GossipTables g = withEvents(2);
        g.mode(1);
        g.write(0, 1);
        g.mode(2);
        g.add(0, 5);
        g.write(0, 1);
        Check.due("11: events", 2, () -> g.letter(0, 1, 0, 0));
        Check.due("11: mode as written", 1, () -> g.letter(0, 1, 0, 1));
        Check.due("11: mode as written", 2, () -> g.letter(0, 1, 1, 1));
        Check.due("11: has none", 0, () -> g.letter(0, 1, 1, 2));
        g.come(0, 1, 0);
        Check.due("11: has two of three", 2, () -> g.letter(0, 1, 0, 2));
        Check.due("11: three", 3, () -> g.letter(0, 1, 0, 0));
        Check.due("11: what 3", ARGUMENT, () -> g.letter(0, 1, 0, 3));
        Check.due("11: what -1", ARGUMENT, () -> g.letter(0, 1, 0, -1));
        Check.due("11: k ahead of what", ELEMENT, () -> g.letter(0, 1, 1, 3));
        Check.due("11: site ahead of k", INDEX, () -> g.letter(0, 3, 1, 3));
        Check.due("11: one site", INDEX, () -> g.letter(1, 1, 0, 0));
    }

    private static void inLetter() {
        GossipTables g = new GossipTables();
        g.add(1, 4);
        g.add(0, 5);
        Check.send(g, 0, 1);
        g.take(1, 0);
        g.write(1, 2);
        Check.due("12: as the log is", 0, () -> g.inLetter(1, 2, 0, 0));
        Check.due("12: as the log is", 1, () -> g.inLetter(1, 2, 0, 1));
        Check.due("12: as the log is", 2, () -> g.inLetter(1, 2, 0, 2));
        Check.due("12: i 3", ELEMENT, () -> g.inLetter(1, 2, 0, 3));
        Check.due("12: i -1", ELEMENT, () -> g.inLetter(1, 2, 0, -1));
        Check.due("12: k 1", ELEMENT, () -> g.inLetter(1, 2, 1, 0));
        Check.due("12: k -1", ELEMENT, () -> g.inLetter(1, 2, -1, 0));
        Check.due("12: one site", INDEX, () -> g.inLetter(2, 2, 0, 0));
        Check.due("12: site", INDEX, () -> g.inLetter(1, 9, 0, 0));
    }
}
