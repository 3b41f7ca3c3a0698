/** Promises 42 to 47: gossip, falling, joining, best, fewest, count. */
public final class AheadOfTimeTest {
    private static final String INDEX = "IndexOutOfBoundsException";
    private static final String ARGUMENT = "IllegalArgumentException";

    public static void main(String[] args) {
        gossip();
        gossipByModes();
        gossipWithCut();
        gossipChangesNothing();
        falling();
        joining();
        best();
        fewest();
        fewestWithCut();
        count();
        countOverstatedAndLost();
        Check.end();
    }

    private static void dueGossip(String what, GossipTables g, int... due) {
        for (int i = 0; i < due.length; i++) {
            int w = i;
            Check.due("42: " + what + ", " + w, due[w], () -> g.gossip(w));
        }
    }

    private static void gossip() {
        GossipTables g = new GossipTables();
        dueGossip("nothing came", g, 0, 0, 0, 0);
        g.sites(2);
        g.add(0, 1);
        // 0 tells 1, 1 drops it; 1 tells nothing but its table, 0 drops it.
        dueGossip("two sites", g, 1, 1, 1, 0);
        g.sites(3);
        g.add(1, 1);
        // Round 1: 1 to 2, 2 to 0 (0 knows of all, drops it); round 2: 0 tells 1, 1 drops it; 1 tells 2.
        dueGossip("three sites", g, 1, 2, 2, 0);
        Check.due("42: what 4", ARGUMENT, () -> g.gossip(4));
        Check.due("42: what -1", ARGUMENT, () -> g.gossip(-1));
        g.sites(3);
        g.add(0, 1);
        g.write(0, 1);
        g.come(0, 1, 0);
        // 0 to 1 (not new), 1 to 2: dropped there; 2 to 0: dropped; 0 to 1 in round 2: dropped.
        dueGossip("one has it already", g, 1, 2, 2, 1);
    }

    private static void gossipByModes() {
        GossipTables g = new GossipTables();
        g.sites(2);
        g.mode(1);
        g.add(0, 1);
        dueGossip("own rows, two sites", g, 1, 1, 1, 0);
        g.mode(2);
        // No table comes back, and as 1 dropped the event it tells nothing: 0 tells it 12 times.
        dueGossip("no tables, two sites", g, 1, -1, 12, 11);
    }

    private static void gossipWithCut() {
        GossipTables g = new GossipTables();
        g.add(0, 1);
        g.cut(0, 1, true);
        // 0 can't tell 1, 2 tells but 0.
        dueGossip("cut", g, -1, -1, 0, 0);
        g.cut(0, 1, false);
        g.cut(2, 0, true);
        // 0 tells 1, 1 tells 2, and nothing comes back to them: both tell it in each round.
        dueGossip("none comes back", g, 1, -1, 24, 22);
    }

    private static void gossipChangesNothing() {
        GossipTables g = new GossipTables();
        g.add(0, 1);
        g.gossip(2);
        Check.due("42: on paper", 1, () -> g.event(0, 5));
        Check.due("42: none was written", 0, () -> g.count(4));
        Check.due("42: no step", 1, () -> g.count(12));
        Check.due("42: log stays", 1, () -> g.site(0, 2));
        Check.due("42: view stays", 0, () -> g.site(1, 1));
        Check.due("42: table stays", 0, () -> g.table(1, 1, 0));
    }

    private static void falling() {
        GossipTables g = new GossipTables();
        g.add(0, 1);
        g.save(0);
        g.add(0, 2);
        Check.send(g, 0, 1);
        Check.send(g, 1, 0);
        Check.due("43: has", 1, () -> g.falling(0, 0));
        Check.due("43: lost to it", 1, () -> g.falling(0, 1));
        Check.due("43: of its table", 0, () -> g.falling(0, 2));
        // Row 0 in the table of 1.
        Check.due("43: of all tables", 1, () -> g.falling(0, 3));
        // Row 1 in the table of 0; events 0 and 1 are in the log of 0, but known to 1.
        Check.due("43: another site: has", 0, () -> g.falling(1, 0));
        Check.due("43: another site: lost", 2, () -> g.falling(1, 1));
        Check.due("43: another site: all tables", 1, () -> g.falling(1, 3));
        Check.due("43: it has not fallen", 2, () -> g.site(0, 3));
        Check.due("43: no step", 7, () -> g.count(12));
        Check.due("43: what 4", ARGUMENT, () -> g.falling(0, 4));
        Check.due("43: what -1", ARGUMENT, () -> g.falling(0, -1));
        Check.due("43: site", INDEX, () -> g.falling(3, 4));
    }

    private static void joining() {
        GossipTables g = new GossipTables();
        g.add(0, 1);
        Check.send(g, 0, 1);
        Check.send(g, 1, 0);
        g.add(0, 2);
        g.fall(1);
        // As 0 now: has both; row 1 is then right; nothing lost.
        Check.due("44: has", 2, () -> g.joining(1, 0, 0));
        Check.due("44: lost", 0, () -> g.joining(1, 0, 1));
        Check.due("44: of its table", 0, () -> g.joining(1, 0, 2));
        Check.due("44: of all tables", 0, () -> g.joining(1, 0, 3));
        // As 2: has none; event 0 is known to 1 by 0's table, event 1 is not.
        Check.due("44: by 2: has", 0, () -> g.joining(1, 2, 0));
        Check.due("44: by 2: lost", 1, () -> g.joining(1, 2, 1));
        Check.due("44: by 2: its table", 0, () -> g.joining(1, 2, 2));
        Check.due("44: by 2: all tables", 1, () -> g.joining(1, 2, 3));
        // 0 would be as 2: its own cell is its clock, but it has none; both are lost to it, and to all.
        Check.due("44: 0 by 2: its table", 1, () -> g.joining(0, 2, 2));
        Check.due("44: 0 by 2: lost", 2, () -> g.joining(0, 2, 1));
        Check.due("44: nothing joined", 0, () -> g.site(1, 3));
        Check.due("44: no step", 7, () -> g.count(12));
        Check.due("44: what 4", ARGUMENT, () -> g.joining(1, 0, 4));
        Check.due("44: what -1", ARGUMENT, () -> g.joining(1, 0, -1));
        Check.due("44: one site", INDEX, () -> g.joining(1, 1, 0));
        Check.due("44: site", INDEX, () -> g.joining(1, 3, 4));
        Check.due("44: site", INDEX, () -> g.joining(-1, 0, 0));
    }

    private static void best() {
        GossipTables g = new GossipTables();
        g.sites(4);
        Check.due("45: all alike: the first", 0, () -> g.best(3));
        Check.due("45: all alike: the first other one", 1, () -> g.best(0));
        g.add(2, 1);
        Check.due("45: most that it has", 2, () -> g.best(0));
        g.add(3, 1);
        g.add(3, 1);
        Check.due("45: most that it has", 3, () -> g.best(0));
        // Site 3 gets and saves nothing of what 0 lost: 0 fell, and only 1 has its event, known to 0.
        g.add(0, 1);
        Check.send(g, 0, 1);
        g.fall(0);
        Check.due("45: fewest lost ahead of most", 1, () -> g.best(0));
        Check.due("45: site", INDEX, () -> g.best(4));
        Check.due("45: site", INDEX, () -> g.best(-1));
    }

    private static void dueFewest(String what, GossipTables g, int... due) {
        Check.due("46: " + what, due.length, () -> g.fewest(-1));
        for (int i = 0; i < due.length; i++) {
            int k = i;
            Check.due("46: " + what + ", " + k, due[k], () -> g.fewest(k));
        }
        Check.due("46: " + what + ", no more", -1, () -> g.fewest(due.length));
    }

    private static void fewest() {
        GossipTables g = new GossipTables();
        dueFewest("alike", g);
        Check.due("46: -2", -1, () -> g.fewest(-2));
        Check.due("46: k", -1, () -> g.fewest(Integer.MAX_VALUE));
        g.add(1, 1);
        dueFewest("one has one", g, 10, 2);
        g.add(0, 1);
        dueFewest("two of three", g, 1, 10, 2);
        g.add(2, 1);
        dueFewest("three", g, 1, 12, 20, 1);
        Check.send(g, 0, 1);
        dueFewest("1 has two", g, 12, 20, 1);
        g.sites(2);
        g.add(1, 1);
        dueFewest("two sites", g, 10);
        g.sites(4);
        g.add(3, 1);
        dueFewest("four sites", g, 30, 1, 2);
        g.sites(5);
        Check.due("46: five sites", -1, () -> g.fewest(-1));
        Check.due("46: five sites, k", -1, () -> g.fewest(0));
    }

    private static void fewestWithCut() {
        GossipTables g = new GossipTables();
        g.sites(4);
        g.add(0, 1);
        g.add(3, 1);
        dueFewest("not cut", g, 3, 30, 1, 2);
        g.cut(0, 2, true);
        g.cut(0, 3, true);
        g.cut(1, 3, true);
        // A line 0-1-2-3.
        dueFewest("a line", g, 1, 12, 23, 32, 21, 10);
        g.cut(1, 2, true);
        Check.due("46: two parts", -1, () -> g.fewest(-1));
        Check.due("46: two parts, k", -1, () -> g.fewest(0));
        GossipTables h = new GossipTables();
        h.sites(4);
        h.add(0, 1);
        Check.send(h, 0, 2);
        for (int a = 0; a < 2; a++) {
            for (int b = 2; b < 4; b++) {
                h.cut(a, b, true);
            }
        }
        dueFewest("two parts, each of which has all", h, 1, 23);
    }

    private static void count() {
        GossipTables g = new GossipTables();
        g.sites(4);
        g.mode(1);
        g.add(0, 1);
        g.add(0, 2);
        g.write(0, 1);
        g.twice(0, 1, 0);
        g.come(0, 1, 0);
        g.come(0, 1, 0);
        g.write(1, 2);
        g.write(1, 3);
        g.lose(1, 3, 0);
        g.cut(3, 2, true);
        g.cut(3, 1, true);
        int[] due = {4, 1, 2, 1, 3, 6, 2, 0, -1, 0, 0, 0, 11, 2};
        for (int what = 0; what < due.length; what++) {
            int w = what;
            Check.due("47: " + w, due[w], () -> g.count(w));
        }
        for (int wrong : new int[] {-1, 14, 100, Integer.MIN_VALUE, Integer.MAX_VALUE}) {
            Check.due("47: " + wrong, -1, () -> g.count(wrong));
        }
        g.come(1, 2, 0);
        g.join(3, 0);
        Check.due("47: all have both", 2, () -> g.count(10));
        Check.due("47: alike", 1, () -> g.count(11));
        g.take(3, 1);
        Check.due("47: not alike", 0, () -> g.count(11));
    }

    private static void countOverstatedAndLost() {
        GossipTables g = new GossipTables();
        g.add(2, 1);
        Check.send(g, 2, 1);
        g.fall(2);
        // The table of 1 says in row 2 that site 2 knows its event.
        Check.due("47: overstated", 1, () -> g.count(7));
        Check.due("47: the first", 122, () -> g.count(8));
        Check.due("47: lost", 1, () -> g.count(9));
        Check.send(g, 1, 0);
        Check.due("47: two tables say so", 2, () -> g.count(7));
        Check.due("47: the first", 22, () -> g.count(8));
        g.fall(1);
        // Row 1 of site 0 overstates now, too, and site 1's table says nothing; the event is lost to 1 and 2.
        Check.due("47: both in one table", 2, () -> g.count(7));
        Check.due("47: the first", 12, () -> g.count(8));
        Check.due("47: lost", 2, () -> g.count(9));
    }
}
