/** Promises 20 to 28: what a site has. */
public final class SiteTest {
    private static final String INDEX = "IndexOutOfBoundsException";
    private static final String ELEMENT = "NoSuchElementException";
    private static final String ARGUMENT = "IllegalArgumentException";

    public static void main(String[] args) {
        view();
        named();
        log();
        table();
        knows();
        has();
        site();
        siteOverstatedAndLost();
        lostAndLetters();
        siteCommon();
        manyEvents();
        unlike();
        would();
        Check.end();
    }

    private static void view() {
        GossipTables g = new GossipTables();
        g.add(1, 40);
        g.add(0, 41);
        g.add(0, 42);
        Check.send(g, 1, 0);
        int[] names = {40, 41, 42};
        for (int k = 0; k < 3; k++) {
            int i = k;
            Check.due("20: by marks, not as they came", i, () -> g.view(0, i, 0));
            Check.due("20: name", names[i], () -> g.view(0, i, 1));
        }
        Check.due("20: k 3", ELEMENT, () -> g.view(0, 3, 0));
        Check.due("20: k -1", ELEMENT, () -> g.view(0, -1, 0));
        Check.due("20: what 2", ARGUMENT, () -> g.view(0, 0, 2));
        Check.due("20: what -1", ARGUMENT, () -> g.view(0, 0, -1));
        Check.due("20: k ahead of what", ELEMENT, () -> g.view(0, 3, 2));
        Check.due("20: site ahead of k", INDEX, () -> g.view(3, 3, 2));
        for (int i = 3; i < 120; i++) {
            g.add(2, i % 100);
        }
        Check.due("20: the last one", 119, () -> g.view(2, 116, 0));
        Check.due("20: beyond it", ELEMENT, () -> g.view(2, 117, 0));
    }

    private static void named() {
        GossipTables g = new GossipTables();
        g.add(0, 0);
        g.add(0, 5);
        g.add(0, 5);
        g.add(0, 5);
        g.add(1, 5);
        Check.due("21: how many", 3, () -> g.named(0, 5, 0));
        Check.due("21: least", 1, () -> g.named(0, 5, 1));
        Check.due("21: greatest", 3, () -> g.named(0, 5, 2));
        g.take(0, 3);
        Check.due("21: then how many", 2, () -> g.named(0, 5, 0));
        Check.due("21: then greatest", 2, () -> g.named(0, 5, 2));
        Check.due("21: none", 0, () -> g.named(0, 99, 0));
        Check.due("21: no least", -1, () -> g.named(0, 99, 1));
        Check.due("21: no greatest", -1, () -> g.named(2, 5, 2));
        Check.due("21: name 0", 0, () -> g.named(0, 0, 1));
        Check.due("21: name 100", ARGUMENT, () -> g.named(0, 100, 0));
        Check.due("21: name -1", ARGUMENT, () -> g.named(0, -1, 0));
        Check.due("21: what 3", ARGUMENT, () -> g.named(0, 5, 3));
        Check.due("21: what -1", ARGUMENT, () -> g.named(0, 5, -1));
        Check.due("21: site", INDEX, () -> g.named(3, 100, 3));
    }

    private static void log() {
        GossipTables g = new GossipTables();
        g.add(1, 1);
        g.add(0, 2);
        Check.send(g, 1, 0);
        Check.due("22: own one first", 1, () -> g.log(0, 0));
        Check.due("22: as they came", 0, () -> g.log(0, 1));
        Check.due("22: k 2", ELEMENT, () -> g.log(0, 2));
        Check.due("22: k -1", ELEMENT, () -> g.log(0, -1));
        Check.due("22: site", INDEX, () -> g.log(3, 0));
        Check.due("22: site", INDEX, () -> g.log(-1, 0));
    }

    private static void table() {
        GossipTables g = new GossipTables();
        g.add(1, 1);
        g.add(1, 1);
        Check.send(g, 1, 2);
        Check.due("23: own", 2, () -> g.table(1, 1, 1));
        Check.due("23: writing tells the writer nothing", 0, () -> g.table(1, 2, 1));
        Check.due("23: of the sender", 2, () -> g.table(2, 1, 1));
        Check.due("23: own row", 2, () -> g.table(2, 2, 1));
        Check.due("23: of a third one", 0, () -> g.table(2, 0, 1));
        Check.due("23: site", INDEX, () -> g.table(3, 0, 0));
        Check.due("23: row", INDEX, () -> g.table(0, 3, 0));
        Check.due("23: at", INDEX, () -> g.table(0, 0, 3));
        Check.due("23: at", INDEX, () -> g.table(0, 0, -1));
    }

    private static void knows() {
        GossipTables g = new GossipTables();
        g.add(1, 1);
        g.add(1, 2);
        g.write(1, 0);
        g.add(1, 3);
        g.come(1, 0, 0);
        Check.due("24: itself", true, () -> g.knows(0, 0, 1));
        Check.due("24: the sender", true, () -> g.knows(0, 1, 1));
        Check.due("24: later one", false, () -> g.knows(0, 1, 2));
        Check.due("24: a third site", false, () -> g.knows(0, 2, 0));
        Check.due("24: the sender of it", false, () -> g.knows(1, 0, 0));
        Check.due("24: event", INDEX, () -> g.knows(0, 0, 3));
        Check.due("24: event", INDEX, () -> g.knows(0, 0, -1));
        Check.due("24: other", INDEX, () -> g.knows(0, 3, 0));
        Check.due("24: site", INDEX, () -> g.knows(3, 0, 0));
    }

    private static void has() {
        GossipTables g = new GossipTables();
        g.add(1, 1);
        g.take(1, 0);
        g.write(1, 0);
        Check.due("25: not yet", false, () -> g.has(0, 1));
        g.come(1, 0, 0);
        Check.due("25: in", true, () -> g.has(0, 0));
        Check.due("25: out", true, () -> g.has(0, 1));
        Check.due("25: event", INDEX, () -> g.has(0, 2));
        Check.due("25: event", INDEX, () -> g.has(0, -1));
        Check.due("25: site", INDEX, () -> g.has(3, 0));
        g.fall(0);
        Check.due("25: fallen", false, () -> g.has(0, 0));
    }

    private static void site() {
        GossipTables g = new GossipTables();
        g.add(0, 1);
        g.add(0, 2);
        g.take(0, 0);
        Check.send(g, 0, 1);
        int[] first = {3, 1, 3, 3, 0, 0, 0, 0};
        int[] second = {0, 1, 3, 3, 0, 0, 0, 0};
        int[] third = {0, 0, 0, 0, 0, 0, 0, 0};
        for (int what = 0; what < 8; what++) {
            int w = what;
            Check.due("26: site 0, " + w, first[w], () -> g.site(0, w));
            Check.due("26: site 1, " + w, second[w], () -> g.site(1, w));
            Check.due("26: site 2, " + w, third[w], () -> g.site(2, w));
        }
        Check.due("26: what 8", ARGUMENT, () -> g.site(0, 8));
        Check.due("26: what -1", ARGUMENT, () -> g.site(0, -1));
        Check.due("26: site", INDEX, () -> g.site(3, 8));
    }

    private static void siteOverstatedAndLost() {
        GossipTables g = new GossipTables();
        g.add(0, 1);
        Check.send(g, 0, 1);
        Check.send(g, 1, 0);
        Check.send(g, 0, 2);
        g.fall(1);
        // Rows 1 of the tables of 0 and of 2 say that site 1 knows event 0, but it has it not.
        Check.due("26: overstated, 0", 1, () -> g.site(0, 4));
        Check.due("26: overstated, 1", 0, () -> g.site(1, 4));
        Check.due("26: overstated, 2", 1, () -> g.site(2, 4));
        Check.due("26: lost, 0", 0, () -> g.site(0, 5));
        Check.due("26: lost, 1", 1, () -> g.site(1, 5));
        Check.due("26: lost, 2", 0, () -> g.site(2, 5));
        g.add(1, 2);
        g.fall(1);
        g.add(1, 3);
        // Its own cell says 2, and it has but the second.
        Check.due("26: its own cell", 1, () -> g.site(1, 4));
        Check.due("26: its own event is lost to it", 2, () -> g.site(1, 5));
        Check.due("26: and to the others", 1, () -> g.site(0, 5));
    }

    private static void lostAndLetters() {
        GossipTables g = new GossipTables();
        g.add(0, 1);
        g.write(0, 1);
        g.twice(0, 1, 0);
        g.come(0, 1, 0);
        g.fall(0);
        g.fall(1);
        Check.due("26: a letter that waits has it", 0, () -> g.site(1, 5));
        Check.due("26: none for the others", 1, () -> g.site(2, 5));
        Check.due("26: nor for its own site", 1, () -> g.site(0, 5));
        g.cut(0, 1, true);
        Check.due("26: a cut link does not matter", 0, () -> g.site(1, 5));
        g.cut(0, 1, false);
        g.lose(0, 1, 0);
        Check.due("26: the letter is gone", 1, () -> g.site(1, 5));
        GossipTables h = new GossipTables();
        h.add(0, 1);
        h.write(0, 1);
        h.add(0, 2);
        h.mode(2);
        Check.send(h, 0, 2);
        h.fall(0);
        h.join(1, 2);
        h.fall(1);
        h.mode(0);
        Check.due("26: the log of 2 has both for 1", 0, () -> h.site(1, 5));
        h.add(2, 9);
        h.fall(2);
        Check.due("26: the letter has the first, none the other two", 2, () -> h.site(1, 5));
        h.add(1, 5);
        Check.due("26: still", 2, () -> h.site(1, 5));
        GossipTables i = new GossipTables();
        i.sites(2);
        i.add(0, 1);
        i.write(0, 1);
        i.add(0, 2);
        i.fall(0);
        i.add(0, 3);
        i.write(0, 1);
        i.come(0, 1, 1);
        // The table of site 1 has now time 3 for itself, so the letter's event will not be new.
        Check.due("26: a letter whose event is known by its own table", 2, () -> i.site(1, 5));
    }

    private static void siteCommon() {
        GossipTables g = new GossipTables();
        g.add(0, 1);
        Check.send(g, 0, 1);
        Check.send(g, 0, 2);
        Check.due("26: all have it", 1, () -> g.site(0, 6));
        Check.due("26: it is in its log", 1, () -> g.site(0, 7));
        Check.due("26: in that of 1, too", 1, () -> g.site(1, 7));
        Check.send(g, 1, 2);
        Check.due("26: 2 knows that all know it", 0, () -> g.site(2, 7));
        Check.due("26: all have it, told of 2", 1, () -> g.site(2, 6));
        Check.due("38: none", -1, () -> g.only(0, 1, 0));
        Check.due("26: whatever was asked ahead of it", 1, () -> g.site(0, 7));
    }

    /** Sets of events go on beyond the 64 bits of a long. */
    private static void manyEvents() {
        GossipTables g = new GossipTables();
        for (int i = 0; i < 110; i++) {
            g.add(i < 100 ? 0 : 1, i % 100);
        }
        g.save(0);
        Check.due("22: log", 109, () -> g.log(1, 9));
        Check.due("6: many", 100, () -> g.write(0, 1));
        Check.due("7: many", 100, () -> g.come(0, 1, 0));
        Check.due("26: has", 110, () -> g.site(1, 3));
        Check.due("5: a late one", 110, () -> g.take(1, 99));
        Check.due("5: the 65th", 111, () -> g.take(1, 64));
        Check.due("5: the 64th", 112, () -> g.take(1, 63));
        Check.due("26: elements", 107, () -> g.site(1, 1));
        Check.due("20: next to it", 65, () -> g.view(1, 63, 0));
        Check.due("27: only there", 3, () -> g.unlike(0, 1));
        Check.due("38: last of these", 99, () -> g.only(0, 1, 2));
        Check.due("38: the other way", 100, () -> g.only(1, 0, 0));
        Check.due("37: front", 112, () -> g.front(1, 0));
        Check.due("37: one", 1, () -> g.front(1, -1));
        Check.due("15: many", 113, () -> g.join(2, 1));
        Check.due("47: all have", 100, () -> g.count(10));
        Check.due("26: all have, in the log", 100, () -> g.site(2, 7));
        Check.due("28: would not be told", 0, () -> g.would(2, 0, 2));
        Check.due("28: would be told", 13, () -> g.would(2, 0, 0));
        Check.due("14: many", 113, () -> g.fall(2));
        Check.due("43: many", 100, () -> g.falling(0, 0));
        Check.due("26: nothing in its view", 0, () -> g.site(2, 1));
        g.sites(3);
        Check.due("2: nothing in its view", 0, () -> g.site(1, 1));
        Check.due("2: has nothing", 0, () -> g.site(0, 3));
    }

    private static void unlike() {
        GossipTables g = new GossipTables();
        g.add(0, 1);
        g.add(0, 1);
        g.add(1, 1);
        Check.due("27: two", 2, () -> g.unlike(0, 1));
        Check.due("27: one", 1, () -> g.unlike(1, 0));
        Check.send(g, 0, 1);
        Check.due("27: none", 0, () -> g.unlike(0, 1));
        g.take(1, 0);
        Check.due("27: what the other one took away", 1, () -> g.unlike(0, 1));
        Check.due("27: one site", INDEX, () -> g.unlike(1, 1));
        Check.due("27: site", INDEX, () -> g.unlike(1, 3));
        Check.due("27: site", INDEX, () -> g.unlike(-1, 1));
    }

    private static void would() {
        GossipTables g = new GossipTables();
        g.add(0, 1);
        g.add(0, 2);
        g.write(0, 1);
        g.come(0, 1, 0);
        Check.due("28: though the other one has both", 2, () -> g.would(0, 1, 0));
        Check.due("28: has both", 2, () -> g.would(0, 1, 1));
        Check.due("28: none is left out", 0, () -> g.would(0, 1, 2));
        Check.send(g, 1, 0);
        Check.due("28: it knows then", 0, () -> g.would(0, 1, 0));
        g.fall(1);
        Check.due("28: it thinks so", 0, () -> g.would(0, 1, 0));
        Check.due("28: but both are lacking", 2, () -> g.would(0, 1, 2));
        Check.due("28: nothing was written", 2, () -> g.count(4));
        g.cut(0, 2, true);
        Check.due("28: a cut link does not matter", 2, () -> g.would(0, 2, 0));
        g.add(0, 3);
        g.add(0, 4);
        Check.due("28: two that it thinks it knows, two that it tells", 2, () -> g.would(0, 1, 2));
        Check.send(g, 0, 1);
        Check.due("28: two of four are lacking", 2, () -> g.would(0, 1, 2));
        g.join(0, 2);
        Check.due("28: only what the first one has", 0, () -> g.would(0, 1, 2));
        Check.due("28: what 3", ARGUMENT, () -> g.would(0, 1, 3));
        Check.due("28: what -1", ARGUMENT, () -> g.would(0, 1, -1));
        Check.due("28: one site", INDEX, () -> g.would(0, 0, 3));
        Check.due("28: site", INDEX, () -> g.would(0, 3, 0));
    }
}
