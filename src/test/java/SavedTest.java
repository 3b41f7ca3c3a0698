/** Promises 13 to 19: save, fall, join, chance, keep, back, cut. */
public final class SavedTest {
    private static final String INDEX = "IndexOutOfBoundsException";
    private static final String ELEMENT = "NoSuchElementException";
    private static final String STATE = "IllegalStateException";
    private static final String ARGUMENT = "IllegalArgumentException";

    public static void main(String[] args) {
        save();
        fall();
        fallKeepsWhenAndBy();
        join();
        joinTakesAway();
        chance();
        chanceThatCannotBe();
        keepAndBack();
        backToEvents();
        backToLetters();
        backToWhenAndBy();
        cut();
        Check.end();
    }

    private static void save() {
        GossipTables g = new GossipTables();
        g.add(0, 1);
        g.add(1, 2);
        Check.send(g, 0, 1);
        Check.due("13: has", 2, () -> g.save(1));
        Check.due("13: has none", 0, () -> g.save(2));
        Check.due("13: site", INDEX, () -> g.save(3));
        Check.due("13: site", INDEX, () -> g.save(-1));
        Check.due("13: a step", 6, () -> g.count(12));
        g.add(1, 3);
        Check.due("13: as it was", 2, () -> g.falling(1, 0));
    }

    private static void fall() {
        GossipTables g = new GossipTables();
        g.add(0, 1);
        g.take(0, 0);
        g.add(1, 5);
        g.add(0, 2);
        g.save(0);
        Check.send(g, 1, 0);
        g.add(0, 3);
        Check.due("14: had", 2, () -> g.fall(0));
        Check.due("14: clock stays", 4, () -> g.site(0, 0));
        Check.due("14: has", 3, () -> g.site(0, 3));
        Check.due("14: log", 3, () -> g.site(0, 2));
        Check.due("14: own cell", 3, () -> g.table(0, 0, 0));
        Check.due("14: cell", 0, () -> g.table(0, 0, 1));
        Check.due("14: view", 3, () -> g.view(0, 0, 0));
        Check.due("14: view", 1, () -> g.site(0, 1));
        Check.due("14: again", 0, () -> g.fall(0));
        Check.due("14: goes on", 5, () -> g.add(0, 9));
        Check.due("14: time", 5, () -> g.event(5, 1));
        Check.due("14: never saved", 1, () -> g.fall(1));
        Check.due("14: as at first", 0, () -> g.site(1, 3));
        Check.due("14: table as at first", 0, () -> g.table(1, 1, 1));
        Check.due("14: site", INDEX, () -> g.fall(3));
        Check.due("14: event comes back to its site", 1, () -> {
            Check.send(g, 0, 1);
            return g.site(1, 0);
        });
        GossipTables h = new GossipTables();
        h.add(0, 1);
        h.save(0);
        h.join(0, 1);
        Check.due("14: it may come to have more", 0, () -> h.fall(0));
        Check.due("14: more", 1, () -> h.site(0, 3));
    }

    private static void fallKeepsWhenAndBy() {
        GossipTables g = new GossipTables();
        g.add(0, 1);
        Check.send(g, 0, 1);
        g.save(1);
        g.join(1, 2);
        Check.send(g, 0, 1);
        Check.due("14: came later", 7, () -> g.came(1, 0, 0));
        g.fall(1);
        Check.due("14: when, as saved", 3, () -> g.came(1, 0, 0));
        Check.due("14: by, as saved", 0, () -> g.came(1, 0, 1));
        g.join(1, 2);
        Check.send(g, 0, 2);
        Check.send(g, 2, 1);
        Check.due("14: came by another one", 2, () -> g.came(1, 0, 1));
        g.fall(1);
        Check.due("14: by, as saved", 0, () -> g.came(1, 0, 1));
    }

    private static void join() {
        GossipTables g = new GossipTables();
        g.add(0, 1);
        g.add(1, 2);
        g.add(1, 3);
        g.take(1, 1);
        Check.send(g, 2, 1);
        Check.due("15: has", 3, () -> g.join(0, 1));
        Check.due("15: lost its own", false, () -> g.has(0, 0));
        Check.due("15: view", 2, () -> g.view(0, 0, 0));
        Check.due("15: log", 3, () -> g.site(0, 2));
        Check.due("15: first of log", 1, () -> g.log(0, 0));
        int[][] due = {{1, 3, 0}, {0, 3, 0}, {0, 0, 0}};
        for (int row = 0; row < 3; row++) {
            for (int at = 0; at < 3; at++) {
                int r = row;
                int a = at;
                Check.due("15: cell " + r + " " + a, due[r][a], () -> g.table(0, r, a));
            }
        }
        Check.due("15: when", 7, () -> g.came(0, 1, 0));
        Check.due("15: by", 1, () -> g.came(0, 1, 1));
        Check.due("15: one site", INDEX, () -> g.join(1, 1));
        Check.due("15: site", INDEX, () -> g.join(0, 3));
        Check.due("15: site", INDEX, () -> g.join(-1, 0));
        g.cut(0, 2, true);
        Check.due("15: a cut link does not matter", 0, () -> g.join(0, 2));
    }

    private static void joinTakesAway() {
        GossipTables g = new GossipTables();
        g.add(0, 1);
        Check.send(g, 0, 1);
        g.add(0, 2);
        g.add(1, 3);
        Check.due("15: has those of the other one", 2, () -> g.join(0, 1));
        Check.due("15: what it had already came when it came", 1, () -> g.came(0, 0, 0));
        Check.due("15: and by whom", 0, () -> g.came(0, 0, 1));
        Check.due("15: what it had not comes now", 6, () -> g.came(0, 2, 0));
        Check.due("15: what the other one has not goes", -1, () -> g.came(0, 1, 0));
        Check.due("15: own time", 2, () -> g.table(0, 0, 0));
    }

    /** The draws of a seed, told again here, and what they must do. */
    private static final class Draws {
        private long x;

        Draws(int seed) {
            x = seed;
        }

        int of(int m) {
            x = (1103515245L * x + 12345L) % 2147483648L;
            return (int) (x / 64 % m);
        }
    }

    private static void chance() {
        for (int seed : new int[] {0, 1, 77, 123456789, Integer.MAX_VALUE}) {
            GossipTables g = new GossipTables();
            GossipTables byHand = new GossipTables();
            g.sites(4);
            byHand.sites(4);
            int came = byDraws(byHand, new Draws(seed), 60, 4);
            Check.due("16: events of " + seed, came, () -> g.chance(seed, 60));
            for (int what = 0; what <= 13; what++) {
                int w = what;
                Check.due("16: count " + w + " of " + seed, byHand.count(w), () -> g.count(w));
            }
            for (int k = 0; k < 32 && k < byHand.count(12); k++) {
                for (int what = 0; what < 4; what++) {
                    int i = k;
                    int w = what;
                    Check.due("16: trace " + i + " " + w + " of " + seed, byHand.trace(i, w), () -> g.trace(i, w));
                }
            }
        }
        GossipTables g = new GossipTables();
        Check.due("16: 60 times", true, () -> g.chance(3, 60) > 0);
        Check.due("16: none", 0, () -> g.chance(5, 0));
        Check.due("16: 61", ARGUMENT, () -> g.chance(5, 61));
        Check.due("16: -1", ARGUMENT, () -> g.chance(5, -1));
        Check.due("16: seed", ARGUMENT, () -> g.chance(-1, 1));
        Check.due("16: seed", ARGUMENT, () -> g.chance(Integer.MIN_VALUE, 1));
    }

    private static int byDraws(GossipTables g, Draws draws, int n, int sites) {
        int came = 0;
        for (int i = 0; i < n; i++) {
            int kind = draws.of(8);
            int first = draws.of(sites);
            if (kind <= 1) {
                g.add(first, draws.of(100));
                came++;
            } else if (kind == 2) {
                if (g.site(first, 1) > 0) {
                    g.take(first, g.view(first, draws.of(g.site(first, 1)), 0));
                    came++;
                }
            } else {
                int other = draws.of(sites);
                other = other == first ? (first + 1) % sites : other;
                if (kind <= 5) {
                    writeIfRoom(g, first, other);
                } else if (g.waiting(first, other) > 0) {
                    g.come(first, other, draws.of(g.waiting(first, other)));
                }
            }
        }
        return came;
    }

    private static void writeIfRoom(GossipTables g, int from, int to) {
        if (g.waiting(from, to) < 12) {
            g.write(from, to);
        }
    }

    private static void chanceThatCannotBe() {
        GossipTables g = new GossipTables();
        g.sites(2);
        g.cut(0, 1, true);
        g.chance(9, 60);
        Check.due("16: no letter by a cut link", 0, () -> g.count(4));
        Check.due("16: only events are steps", g.count(2) + 1, () -> g.count(12));
        for (int i = g.count(2); i < 120; i++) {
            g.add(0, 1);
        }
        int steps = g.count(12);
        Check.due("16: 120 there are", 0, () -> g.chance(9, 60));
        Check.due("16: nothing done, no step", steps, () -> g.count(12));
        GossipTables h = new GossipTables();
        h.sites(2);
        for (int i = 0; i < 12; i++) {
            h.write(0, 1);
            h.write(1, 0);
        }
        for (int seed = 0; seed < 5; seed++) {
            h.chance(seed, 60);
        }
        Check.that("16: 12 letters at most", h.waiting(0, 1) <= 12 && h.waiting(1, 0) <= 12);
    }

    private static void keepAndBack() {
        GossipTables g = new GossipTables();
        Check.due("18: none was kept", ELEMENT, () -> g.back(1));
        Check.due("18: 2", ARGUMENT, () -> g.back(2));
        Check.due("18: -1", ARGUMENT, () -> g.back(-1));
        Check.due("17: 2", ARGUMENT, () -> g.keep(2));
        Check.due("17: -1", ARGUMENT, () -> g.keep(-1));
        g.sites(4);
        g.mode(2);
        g.add(3, 7);
        g.add(0, 8);
        g.save(3);
        g.write(3, 0);
        g.take(3, 0);
        g.cut(1, 2, true);
        Check.due("17: events", 3, () -> g.keep(1));
        g.come(3, 0, 0);
        g.add(1, 1);
        g.save(0);
        g.cut(1, 2, false);
        g.sites(2);
        g.mode(1);
        Check.due("17: another image", 0, () -> g.keep(0));
        Check.due("18: back", 3, () -> g.back(1));
        int[] due = {4, 2, 3, 1, 1, 1, 0, 0, -1, 0, 0, 0, 6, 1};
        for (int what = 0; what < due.length; what++) {
            int w = what;
            Check.due("18: then count " + w, due[w], () -> g.count(w));
        }
        Check.due("18: no trace", ELEMENT, () -> g.trace(0, 0));
        Check.due("18: saved", 1, () -> g.falling(3, 0));
        Check.due("18: saved as at first", 0, () -> g.falling(0, 0));
        Check.due("18: not in the view", 0, () -> g.site(3, 1));
        Check.due("18: clock", 2, () -> g.site(3, 0));
        Check.due("18: the letter", 0, () -> g.inLetter(3, 0, 0, 0));
        Check.due("18: next number", 3, () -> g.add(1, 1));
        Check.due("18: next step", 7, () -> g.trace(0, 0));
        Check.due("18: an image stays as it was", 3, () -> g.back(1));
        Check.due("18: once more", 3, () -> g.count(2));
        Check.due("18: the other one", 0, () -> g.back(0));
        Check.due("18: sites", 2, () -> g.count(0));
        Check.due("18: mode", 1, () -> g.count(1));
        Check.due("17: kept anew", 0, () -> g.keep(1));
        Check.due("18: that is it then", 0, () -> g.back(1));
    }

    /** What each event was is told as it was, though others had its number since. */
    private static void backToEvents() {
        GossipTables g = new GossipTables();
        g.sites(5);
        g.add(4, 44);
        g.add(3, 33);
        Check.send(g, 4, 3);
        g.take(3, 0);
        g.keep(0);
        int[][] due = new int[3][9];
        for (int event = 0; event < 3; event++) {
            for (int what = 0; what < 9; what++) {
                due[event][what] = g.event(event, what);
            }
        }
        g.sites(2);
        g.add(0, 1);
        g.add(0, 2);
        g.add(0, 3);
        g.back(0);
        for (int event = 0; event < 3; event++) {
            for (int what = 0; what < 9; what++) {
                int e = event;
                int w = what;
                Check.due("18: event " + e + ", " + w, due[e][w], () -> g.event(e, w));
            }
        }
        Check.due("18: ahead", true, () -> g.ahead(0, 2));
        Check.due("18: not ahead", false, () -> g.ahead(0, 1));
        g.join(0, 3);
        g.join(1, 3);
        g.join(2, 3);
        Check.send(g, 3, 4);
        Check.due("18: step of its coming", 8, () -> g.slowest(0));
    }

    private static void backToLetters() {
        GossipTables g = new GossipTables();
        g.add(0, 1);
        Check.send(g, 0, 1);
        g.add(1, 2);
        g.write(1, 2);
        g.mode(1);
        g.write(1, 2);
        g.come(1, 2, 1);
        g.twice(1, 2, 0);
        g.mode(2);
        g.write(0, 1);
        g.come(0, 1, 0);
        g.keep(1);
        g.sites(4);
        g.mode(1);
        g.add(1, 3);
        g.write(1, 2);
        g.write(1, 2);
        g.back(1);
        Check.due("18: two wait", 2, () -> g.waiting(1, 2));
        Check.due("18: mode of the letter", 0, () -> g.letter(1, 2, 1, 1));
        Check.due("18: its first event", 0, () -> g.inLetter(1, 2, 1, 0));
        Check.due("18: its second event", 1, () -> g.inLetter(1, 2, 1, 1));
        Check.due("18: letters written", 4, () -> g.count(4));
        Check.due("18: carried", 6, () -> g.count(5));
        Check.due("18: not new", 1, () -> g.count(6));
        Check.due("18: nothing new", 0, () -> g.come(1, 2, 1));
        Check.due("18: but a table", 1, () -> g.table(2, 0, 0));
        g.sites(3);
        Check.due("2: not new, since sites()", 0, () -> g.count(6));
        Check.due("2: table as at first", 0, () -> g.table(2, 0, 0));
    }

    private static void backToWhenAndBy() {
        GossipTables g = new GossipTables();
        g.add(0, 1);
        Check.send(g, 0, 1);
        g.keep(0);
        g.fall(1);
        Check.send(g, 0, 2);
        Check.send(g, 2, 1);
        Check.due("18: came by 2", 2, () -> g.came(1, 0, 1));
        g.back(0);
        Check.due("18: when", 3, () -> g.came(1, 0, 0));
        Check.due("18: by", 0, () -> g.came(1, 0, 1));
    }

    private static void cut() {
        GossipTables g = new GossipTables();
        Check.due("19: not cut anyway", false, () -> g.cut(0, 1, false));
        Check.due("19: no step", 0, () -> g.count(12));
        Check.due("19: cut", true, () -> g.cut(2, 1, true));
        Check.due("19: cut already, from the other end", false, () -> g.cut(1, 2, true));
        Check.due("19: a step", 1, () -> g.count(12));
        Check.due("19: one", 1, () -> g.count(13));
        Check.due("19: trace, what", 9, () -> g.trace(0, 1));
        Check.due("19: trace, first site", 2, () -> g.trace(0, 2));
        Check.due("19: trace, answer", 1, () -> g.trace(0, 3));
        Check.due("19: both ways", STATE, () -> g.write(1, 2));
        Check.due("19: not any more", true, () -> g.cut(1, 2, false));
        Check.due("19: can write", 0, () -> g.write(2, 1));
        Check.due("19: one site", INDEX, () -> g.cut(1, 1, true));
        Check.due("19: site", INDEX, () -> g.cut(3, 1, true));
        Check.due("19: site", INDEX, () -> g.cut(0, -1, false));
    }
}
