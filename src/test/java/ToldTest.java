/** Promises 29 to 41: events, told. */
public final class ToldTest {
    private static final String INDEX = "IndexOutOfBoundsException";
    private static final String ELEMENT = "NoSuchElementException";
    private static final String ARGUMENT = "IllegalArgumentException";

    public static void main(String[] args) {
        event();
        ahead();
        aheadIsNotHandedOn();
        wide();
        came();
        way();
        wayGoesRound();
        slowest();
        chain();
        between();
        front();
        only();
        sure();
        part();
        trace();
        traceOfAll();
        Check.end();
    }

    /** 0 at site 0; 1 at site 1; 0 comes to 1; 2 at site 1 takes 0 away; 3 at site 2; 4 at site 0. */
    private static GossipTables diamond() {
        GossipTables g = new GossipTables();
        g.add(0, 50);
        g.add(1, 51);
        Check.send(g, 0, 1);
        g.take(1, 0);
        g.add(2, 53);
        g.add(0, 54);
        return g;
    }

    private static void event() {
        GossipTables g = diamond();
        int[][] due = {
            {0, 1, 0, 0, 50, 2, 2, 1, 2},
            {1, 1, 0, 1, 51, 1, 1, 1, 3},
            {1, 2, 1, 0, 50, 1, 1, 2, 2},
            {2, 1, 0, 3, 53, 1, 1, 1, 4},
            {0, 2, 0, 4, 54, 1, 1, 2, 3}};
        for (int event = 0; event < due.length; event++) {
            for (int what = 0; what < 9; what++) {
                int e = event;
                int w = what;
                Check.due("29: event " + e + ", " + w, due[e][w], () -> g.event(e, w));
            }
        }
        Check.due("29: event", INDEX, () -> g.event(5, 0));
        Check.due("29: event ahead of what", INDEX, () -> g.event(-1, 9));
        Check.due("29: what 9", ARGUMENT, () -> g.event(0, 9));
        Check.due("29: what -1", ARGUMENT, () -> g.event(0, -1));
    }

    private static void ahead() {
        GossipTables g = diamond();
        Check.due("30: it came there", true, () -> g.ahead(0, 2));
        Check.due("30: at the same site", true, () -> g.ahead(1, 2));
        Check.due("30: not the other way", false, () -> g.ahead(2, 1));
        Check.due("30: concurrent", false, () -> g.ahead(0, 1));
        Check.due("30: itself", false, () -> g.ahead(2, 2));
        Check.due("30: event", INDEX, () -> g.ahead(5, 0));
        Check.due("30: event", INDEX, () -> g.ahead(0, -1));
        Check.due("30: what comes later does not matter", false, () -> {
            Check.send(g, 1, 2);
            return g.ahead(0, 3);
        });
    }

    private static void aheadIsNotHandedOn() {
        GossipTables g = new GossipTables();
        g.add(0, 1);
        Check.send(g, 0, 1);
        g.add(1, 2);
        // Site 1 thinks that site 2 knows events 0 and 1, but it fell.
        Check.send(g, 1, 2);
        Check.send(g, 2, 1);
        g.fall(2);
        g.mode(2);
        g.add(1, 3);
        Check.send(g, 1, 2);
        g.add(2, 4);
        Check.due("30: 1 ahead of 2", true, () -> g.ahead(1, 2));
        Check.due("30: 2 ahead of 3", true, () -> g.ahead(2, 3));
        Check.due("30: 1 not ahead of 3", false, () -> g.ahead(1, 3));
        Check.due("29: height by rows, each ahead of the next", 4, () -> g.event(3, 7));
        Check.due("35: such a row", 1, () -> g.chain(3, 1));
        Check.due("36: between", 1, () -> g.between(1, 3));
    }

    private static void wide() {
        GossipTables none = new GossipTables();
        Check.due("31: none", 0, () -> none.wide(0));
        Check.due("31: no height", 0, () -> none.wide(1));
        Check.due("31: no event", -1, () -> none.wide(2));
        GossipTables g = diamond();
        // 0-1, 0-3, 1-3, 1-4, 2-3, 2-4, 3-4.
        Check.due("31: couples", 7, () -> g.wide(0));
        Check.due("31: height", 2, () -> g.wide(1));
        Check.due("31: the first that has it", 2, () -> g.wide(2));
        Check.due("31: what 3", ARGUMENT, () -> g.wide(3));
        Check.due("31: what -1", ARGUMENT, () -> g.wide(-1));
    }

    private static void came() {
        GossipTables g = diamond();
        Check.due("32: when, itself", 1, () -> g.came(0, 0, 0));
        Check.due("32: by itself", 0, () -> g.came(0, 0, 1));
        Check.due("32: when", 4, () -> g.came(1, 0, 0));
        Check.due("32: by", 0, () -> g.came(1, 0, 1));
        Check.due("32: later one", 5, () -> g.came(1, 2, 0));
        Check.due("32: has it not", -1, () -> g.came(2, 0, 0));
        Check.due("32: has it not", -1, () -> g.came(2, 0, 1));
        Check.due("32: what 2", ARGUMENT, () -> g.came(0, 0, 2));
        Check.due("32: what -1, has it not", ARGUMENT, () -> g.came(2, 0, -1));
        Check.due("32: event", INDEX, () -> g.came(0, 5, 2));
        Check.due("32: site", INDEX, () -> g.came(3, 0, 0));
        Check.send(g, 1, 2);
        Check.due("32: by whose letter it was", 1, () -> g.came(2, 0, 1));
        Check.send(g, 0, 1);
        Check.due("32: what it had already came when it came", 4, () -> g.came(1, 0, 0));
    }

    private static void way() {
        GossipTables g = new GossipTables();
        g.sites(4);
        g.add(3, 1);
        Check.send(g, 3, 1);
        Check.send(g, 1, 0);
        int[] due = {0, 1, 3};
        Check.due("33: how many", 3, () -> g.way(0, 0, -1));
        for (int k = 0; k < 3; k++) {
            int i = k;
            Check.due("33: " + i, due[i], () -> g.way(0, 0, i));
        }
        Check.due("33: not so many", -1, () -> g.way(0, 0, 3));
        Check.due("33: -2", -1, () -> g.way(0, 0, -2));
        Check.due("33: has it not", -1, () -> g.way(2, 0, -1));
        Check.due("33: has it not", -1, () -> g.way(2, 0, 0));
        Check.due("33: at its own site", 1, () -> g.way(3, 0, -1));
        Check.due("33: event", INDEX, () -> g.way(0, 1, 0));
        Check.due("33: site", INDEX, () -> g.way(4, 0, 0));
        g.fall(1);
        Check.due("33: till one that has it not", 2, () -> g.way(0, 0, -1));
        Check.due("33: that one", 1, () -> g.way(0, 0, 1));
        Check.due("33: nothing behind it", -1, () -> g.way(0, 0, 2));
    }

    private static void wayGoesRound() {
        GossipTables g = new GossipTables();
        g.add(0, 1);
        Check.send(g, 0, 1);
        g.fall(0);
        g.join(0, 1);
        int[] due = {0, 1, 0};
        Check.due("33: n of them", 3, () -> g.way(0, 0, -1));
        for (int k = 0; k < 3; k++) {
            int i = k;
            Check.due("33: round, " + i, due[i], () -> g.way(0, 0, i));
        }
        Check.due("33: no more", -1, () -> g.way(0, 0, 3));
    }

    private static void slowest() {
        GossipTables g = new GossipTables();
        g.sites(2);
        Check.due("34: none", -1, () -> g.slowest(0));
        g.add(0, 1);
        g.add(1, 2);
        Check.due("34: none that all have", -1, () -> g.slowest(1));
        Check.send(g, 1, 0);
        Check.due("34: from 2 to 4", 2, () -> g.slowest(0));
        Check.due("34: that one", 1, () -> g.slowest(1));
        g.add(0, 3);
        Check.send(g, 0, 1);
        Check.due("34: from 1 to 7", 6, () -> g.slowest(0));
        Check.due("34: the first", 0, () -> g.slowest(1));
        g.fall(0);
        g.join(0, 1);
        Check.due("34: from its coming, not from when its site came to have it again", 8, () -> g.slowest(0));
        Check.due("34: the first", 0, () -> g.slowest(1));
        Check.due("34: what 2", ARGUMENT, () -> g.slowest(2));
        Check.due("34: what -1", ARGUMENT, () -> g.slowest(-1));
        GossipTables h = new GossipTables();
        h.sites(2);
        h.add(0, 1);
        h.add(0, 2);
        h.save(1);
        h.join(1, 0);
        h.add(0, 3);
        h.save(1);
        h.save(1);
        h.join(1, 0);
        Check.due("34: 3 steps of the first and of the last", 3, () -> h.slowest(0));
        Check.due("34: of like ones the first", 0, () -> h.slowest(1));
    }

    private static void chain() {
        GossipTables g = new GossipTables();
        g.add(1, 1);
        g.add(0, 2);
        g.add(0, 3);
        g.add(2, 4);
        Check.send(g, 1, 2);
        g.add(2, 5);
        Check.send(g, 0, 2);
        g.add(2, 6);
        // Ahead of 4: 0 and 3; ahead of 5: all; rows of three: 0 4 5, 1 2 5, 3 4 5.
        int[] due = {0, 4, 5};
        for (int k = 0; k < 3; k++) {
            int i = k;
            Check.due("35: " + i, due[i], () -> g.chain(5, i));
        }
        Check.due("35: not so many", -1, () -> g.chain(5, 3));
        Check.due("35: -1", -1, () -> g.chain(5, -1));
        Check.due("35: alone", 3, () -> g.chain(3, 0));
        Check.due("35: event", INDEX, () -> g.chain(6, 0));
        Check.due("35: event", INDEX, () -> g.chain(-1, 0));
    }

    private static void between() {
        GossipTables g = new GossipTables();
        g.add(0, 1);
        g.add(0, 2);
        g.add(1, 3);
        g.add(0, 4);
        Check.send(g, 0, 1);
        g.add(1, 5);
        Check.due("36: 1 and 3", 2, () -> g.between(0, 4));
        Check.due("36: none", 0, () -> g.between(3, 4));
        Check.due("36: not ahead", 0, () -> g.between(0, 2));
        Check.due("36: the other way", 0, () -> g.between(4, 0));
        Check.due("36: itself", 0, () -> g.between(4, 4));
        Check.due("36: event", INDEX, () -> g.between(5, 0));
        Check.due("36: event", INDEX, () -> g.between(0, 5));
    }

    private static void front() {
        GossipTables g = diamond();
        Check.due("37: of 1", 1, () -> g.front(1, -1));
        Check.due("37: of 1, first", 2, () -> g.front(1, 0));
        Check.send(g, 0, 1);
        Check.due("37: then", 2, () -> g.front(1, -1));
        Check.due("37: second", 4, () -> g.front(1, 1));
        Check.due("37: none such", -1, () -> g.front(1, 2));
        Check.due("37: -2", -1, () -> g.front(1, -2));
        Check.due("37: only what it has counts", 1, () -> g.front(0, -1));
        g.fall(2);
        Check.due("37: none", 0, () -> g.front(2, -1));
        Check.due("37: site", INDEX, () -> g.front(3, -1));
    }

    private static void only() {
        GossipTables g = new GossipTables();
        g.add(0, 1);
        g.add(0, 2);
        g.add(1, 3);
        Check.send(g, 0, 1);
        g.add(0, 4);
        g.take(1, 0);
        Check.due("38: first", 0, () -> g.only(0, 1, 0));
        Check.due("38: second", 3, () -> g.only(0, 1, 1));
        Check.due("38: no more", -1, () -> g.only(0, 1, 2));
        Check.due("38: -1", -1, () -> g.only(0, 1, -1));
        Check.due("38: the other way", 2, () -> g.only(1, 0, 0));
        Check.due("38: one site", INDEX, () -> g.only(0, 0, 0));
        Check.due("38: site", INDEX, () -> g.only(0, 3, 0));
    }

    private static void sure() {
        GossipTables g = new GossipTables();
        g.add(0, 1);
        Check.send(g, 0, 1);
        g.add(1, 2);
        Check.due("39: 0", 2, () -> g.sure(1, 0));
        Check.due("39: itself counts", 2, () -> g.sure(1, 1));
        Check.due("39: 2", 1, () -> g.sure(1, 2));
        Check.due("39: 3", 0, () -> g.sure(1, 3));
        Check.due("39: only what it has", 0, () -> g.sure(2, 0));
        Check.due("39: 4", ARGUMENT, () -> g.sure(1, 4));
        Check.due("39: -1", ARGUMENT, () -> g.sure(1, -1));
        Check.due("39: site", INDEX, () -> g.sure(3, 4));
    }

    private static void part() {
        GossipTables g = new GossipTables();
        g.sites(5);
        Check.due("40: one", 1, () -> g.part(-1));
        for (int other = 0; other < 4; other++) {
            g.cut(4, other, true);
        }
        g.cut(0, 1, true);
        g.cut(0, 2, true);
        g.cut(3, 1, true);
        // Left: 0-3, 1-2, 2-3.
        Check.due("40: two", 2, () -> g.part(-1));
        Check.due("40: one behind the other", 15, () -> g.part(0));
        Check.due("40: one behind the other", 15, () -> g.part(1));
        Check.due("40: alone", 16, () -> g.part(4));
        g.cut(2, 3, true);
        Check.due("40: three", 3, () -> g.part(-1));
        Check.due("40: 0 and 3", 9, () -> g.part(3));
        Check.due("40: 1 and 2", 6, () -> g.part(1));
        Check.due("40: site", INDEX, () -> g.part(5));
        Check.due("40: -2", INDEX, () -> g.part(-2));
    }

    private static void trace() {
        GossipTables g = new GossipTables();
        Check.due("41: none", ELEMENT, () -> g.trace(0, 0));
        Check.due("41: none ahead of what", ELEMENT, () -> g.trace(0, 4));
        for (int i = 0; i < 40; i++) {
            g.add(i % 3, 1);
        }
        Check.due("41: step", 40, () -> g.trace(0, 0));
        Check.due("41: the 32nd", 9, () -> g.trace(31, 0));
        Check.due("41: its site", 2, () -> g.trace(31, 2));
        Check.due("41: its answer", 8, () -> g.trace(31, 3));
        Check.due("41: no more", ELEMENT, () -> g.trace(32, 0));
        Check.due("41: -1", ELEMENT, () -> g.trace(-1, 0));
        Check.due("41: what 4", ARGUMENT, () -> g.trace(0, 4));
        Check.due("41: what -1", ARGUMENT, () -> g.trace(0, -1));
        g.sites(3);
        Check.due("41: none ahead of sites()", ELEMENT, () -> g.trace(0, 0));
    }

    private static void traceOfAll() {
        GossipTables g = new GossipTables();
        g.add(1, 9);
        g.take(1, 0);
        g.write(1, 2);
        g.twice(1, 2, 0);
        g.come(1, 2, 0);
        g.lose(1, 2, 0);
        g.save(2);
        g.fall(1);
        g.join(1, 2);
        g.cut(2, 0, true);
        Check.answerOf(() -> g.write(0, 2));
        g.cut(0, 2, true);
        g.keep(0);
        int[][] due = {{1, 0, 1, 0}, {2, 1, 1, 1}, {3, 2, 1, 2}, {4, 5, 1, 2}, {5, 3, 1, 2}, {6, 4, 1, 0}, {7, 6, 2, 2},
            {8, 7, 1, 2}, {9, 8, 1, 2}, {10, 9, 2, 1}};
        for (int k = 0; k < 10; k++) {
            for (int what = 0; what < 4; what++) {
                int i = k;
                int w = what;
                Check.due("41: " + i + ", " + w, due[9 - i][w], () -> g.trace(i, w));
            }
        }
        Check.due("41: no more", ELEMENT, () -> g.trace(10, 0));
        g.back(0);
        Check.due("41: none ahead of back()", ELEMENT, () -> g.trace(0, 0));
    }
}
