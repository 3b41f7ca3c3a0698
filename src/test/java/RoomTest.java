import com.sun.management.ThreadMXBean;
import java.lang.management.ManagementFactory;

/** All calls of a run live in one room: what they make is counted, for none of it is given back. */
public final class RoomTest {
    /** A field or element takes 8 bytes at most, an object or array some 16 more. */
    private static final long ROOM = 4_000_000L;

    private static final ThreadMXBean THREADS = (ThreadMXBean) ManagementFactory.getThreadMXBean();

    public static void main(String[] args) {
        runWith("nothing", 0);
        for (int kind = 1; kind <= 4; kind++) {
            runWith("kind " + kind, kind);
        }
        Check.end();
    }

    private static void runWith(String what, int kind) {
        long before = THREADS.getThreadAllocatedBytes(Thread.currentThread().getId());
        GossipTables g = new GossipTables();
        g.sites(4);
        for (int call = 0; call < 511; call++) {
            call(g, kind, call);
        }
        long made = THREADS.getThreadAllocatedBytes(Thread.currentThread().getId()) - before;
        System.out.println(what + ": " + made + " bytes");
        Check.that("room for " + what, made < ROOM);
    }

    private static void call(GossipTables g, int kind, int call) {
        if (kind == 1) {
            g.chance(call, 60);
        } else if (kind == 2) {
            if (call < 120) {
                g.add(call % 4, call % 100);
            } else if (call < 264) {
                g.write(call % 4, (call + 1 + call / 4 % 3) % 4);
            } else if (call % 2 == 0) {
                g.keep(call / 2 % 2);
            } else {
                g.back(call / 2 % 2);
            }
        } else if (kind == 3) {
            if (call < 100) {
                g.chance(call, 10);
            } else {
                g.gossip(call % 4);
            }
        } else if (kind == 4) {
            if (call < 100) {
                g.chance(call, 10);
            } else {
                tellOnly(g, call);
            }
        }
    }

    private static void tellOnly(GossipTables g, int call) {
        int site = call % 4;
        switch (call % 8) {
            case 0: g.best(site); break;
            case 1: g.fewest(0); break;
            case 2: g.count(9); break;
            case 3: g.falling(site, 3); break;
            case 4: g.joining(site, (site + 1) % 4, 3); break;
            case 5: g.front(site, 0); break;
            case 6: g.would(site, (site + 1) % 4, 2); break;
            default: g.chain(call % g.count(2), 0); break;
        }
    }
}
