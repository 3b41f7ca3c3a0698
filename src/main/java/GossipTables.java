import java.util.NoSuchElementException;

/**
 * A dictionary at several sites that tell one another by letters what they did;
 * the document DOC.md says as numbered promises what each call answers.
 */
public final class GossipTables {
    public static final int NONE = -1;

    private static final int LEAST_SITES = 2;
    private static final int MOST_SITES = 5;
    private static final int FIRST_SITES = 3;
    private static final int CELLS = MOST_SITES * MOST_SITES;
    private static final int MOST_EVENTS = 120;
    private static final int MOST_WAITING = 12;
    private static final int MOST_NAMES = 100;
    private static final int MOST_CHANCES = 60;
    private static final int IMAGES = 2;
    private static final int TRACED = 32;
    private static final int ROUNDS = 12;
    private static final int HALF = 64;

    private static final int WHOLE_TABLE = 0;
    private static final int OWN_ROW = 1;
    private static final int NO_TABLE = 2;

    private static final int DID_ADD = 0;
    private static final int DID_TAKE = 1;
    private static final int DID_WRITE = 2;
    private static final int DID_COME = 3;
    private static final int DID_LOSE = 4;
    private static final int DID_TWICE = 5;
    private static final int DID_SAVE = 6;
    private static final int DID_FALL = 7;
    private static final int DID_JOIN = 8;
    private static final int DID_LINK = 9;

    private final World world;
    private final World[] images;
    private final Trace steps;
    private final Paper paper;
    private final Couples couples;
    private long drawn;

    public GossipTables() {
        world = new World();
        images = new World[IMAGES];
        steps = new Trace();
        paper = new Paper(world);
        couples = new Couples(world);
        drawn = 0;
    }

    public int sites(int n) throws IllegalArgumentException {
        if (n < LEAST_SITES || n > MOST_SITES) {
            throw new IllegalArgumentException("2 to 5 sites");
        }
        world.begin(n);
        steps.forget();
        return n;
    }

    public int mode(int mode) throws IllegalArgumentException {
        if (mode < WHOLE_TABLE || mode > NO_TABLE) {
            throw new IllegalArgumentException("no such mode");
        }
        int was = world.mode;
        world.mode = mode;
        return was;
    }

    // ---- events

    public int add(int site, int name) throws IndexOutOfBoundsException, IllegalStateException, IllegalArgumentException {
        needSite(site);
        needRoomForEvent();
        needName(name);
        return traced(DID_ADD, site, world.bringIn(site, name));
    }

    public int take(int site, int mark) throws IndexOutOfBoundsException, NoSuchElementException, IllegalStateException {
        needSite(site);
        if (!world.events.contains(mark) || !world.live[site].view.holds(mark)) {
            throw new NoSuchElementException("no such element in the view");
        }
        needRoomForEvent();
        return traced(DID_TAKE, site, world.takeOut(site, mark));
    }

    // ---- letters

    public int write(int from, int to) throws IndexOutOfBoundsException, IllegalStateException {
        needTwoSites(from, to);
        if (!world.canPost(from, to)) {
            throw new IllegalStateException("12 letters wait there, or the link is cut");
        }
        return traced(DID_WRITE, from, world.post(from, to));
    }

    public int come(int from, int to, int k) throws IndexOutOfBoundsException, NoSuchElementException, IllegalStateException {
        needTwoSites(from, to);
        needLetter(from, to, k);
        if (world.isCut(from, to)) {
            throw new IllegalStateException("the link is cut");
        }
        return traced(DID_COME, from, world.deliver(from, to, k));
    }

    public int lose(int from, int to, int k) throws IndexOutOfBoundsException, NoSuchElementException {
        needTwoSites(from, to);
        needLetter(from, to, k);
        return traced(DID_LOSE, from, world.discard(from, to, k));
    }

    public int twice(int from, int to, int k) throws IndexOutOfBoundsException, NoSuchElementException, IllegalStateException {
        needTwoSites(from, to);
        needLetter(from, to, k);
        if (world.row(from, to).isFull()) {
            throw new IllegalStateException("12 letters wait there");
        }
        return traced(DID_TWICE, from, world.repeat(from, to, k));
    }

    public int waiting(int from, int to) throws IndexOutOfBoundsException {
        needTwoSites(from, to);
        return world.row(from, to).size;
    }

    public int letter(int from, int to, int k, int what) throws IndexOutOfBoundsException, NoSuchElementException, IllegalArgumentException {
        needTwoSites(from, to);
        needLetter(from, to, k);
        needWhat(what, 3);
        Letter one = world.row(from, to).at(k);
        if (what == 0) {
            return one.size;
        }
        return what == 1 ? one.mode : one.content.shared(world.live[to].held);
    }

    public int inLetter(int from, int to, int k, int i) throws IndexOutOfBoundsException, NoSuchElementException {
        needTwoSites(from, to);
        needLetter(from, to, k);
        Letter one = world.row(from, to).at(k);
        if (i < 0 || i >= one.size) {
            throw new NoSuchElementException("no such event in the letter");
        }
        return one.list[i];
    }

    // ---- saved, fallen, joined

    public int save(int site) throws IndexOutOfBoundsException {
        needSite(site);
        return traced(DID_SAVE, site, world.store(site));
    }

    public int fall(int site) throws IndexOutOfBoundsException {
        needSite(site);
        return traced(DID_FALL, site, world.restore(site));
    }

    public int join(int site, int by) throws IndexOutOfBoundsException {
        needTwoSites(site, by);
        return traced(DID_JOIN, site, world.adopt(site, by));
    }

    public int chance(int seed, int n) throws IllegalArgumentException {
        if (seed < 0 || n < 0 || n > MOST_CHANCES) {
            throw new IllegalArgumentException("no such seed or number of times");
        }
        drawn = seed;
        int eventsAtFirst = world.events.size;
        for (int i = 0; i < n; i++) {
            doByChance();
        }
        return world.events.size - eventsAtFirst;
    }

    public int keep(int k) throws IllegalArgumentException {
        needImage(k);
        World image = images[k];
        if (image == null) {
            image = new World();
            images[k] = image;
        }
        image.copyOf(world);
        return world.events.size;
    }

    public int back(int k) throws IllegalArgumentException, NoSuchElementException {
        needImage(k);
        World image = images[k];
        if (image == null) {
            throw new NoSuchElementException("no such image was kept");
        }
        world.copyOf(image);
        steps.forget();
        return world.events.size;
    }

    public boolean cut(int site, int other, boolean is) throws IndexOutOfBoundsException {
        needTwoSites(site, other);
        if (world.isCut(site, other) == is) {
            return false;
        }
        world.setLink(site, other, is);
        traced(DID_LINK, site, 1);
        return true;
    }

    // ---- what a site has

    public int view(int site, int k, int what) throws IndexOutOfBoundsException, NoSuchElementException, IllegalArgumentException {
        needSite(site);
        int mark = world.live[site].view.nth(k);
        if (mark == NONE) {
            throw new NoSuchElementException("not so many elements in the view");
        }
        needWhat(what, 2);
        return what == 0 ? mark : world.events.name[mark];
    }

    public int named(int site, int name, int what) throws IndexOutOfBoundsException, IllegalArgumentException {
        needSite(site);
        needName(name);
        needWhat(what, 3);
        int number = 0;
        int least = NONE;
        int greatest = NONE;
        for (int mark = 0; mark < world.events.size; mark++) {
            if (world.live[site].view.holds(mark) && world.events.name[mark] == name) {
                number++;
                least = least == NONE ? mark : least;
                greatest = mark;
            }
        }
        if (what == 0) {
            return number;
        }
        return what == 1 ? least : greatest;
    }

    public int log(int site, int k) throws IndexOutOfBoundsException, NoSuchElementException {
        needSite(site);
        if (k < 0 || k >= world.live[site].logged) {
            throw new NoSuchElementException("not so many events in the log");
        }
        return world.live[site].log[k];
    }

    public int table(int site, int row, int at) throws IndexOutOfBoundsException {
        needSite(site);
        needSite(row);
        needSite(at);
        return world.live[site].table[cell(row, at)];
    }

    public boolean knows(int site, int other, int event) throws IndexOutOfBoundsException {
        needSite(site);
        needSite(other);
        needEvent(event);
        return world.live[site].isKnown(world.events, other, event);
    }

    public boolean has(int site, int event) throws IndexOutOfBoundsException {
        needSite(site);
        needEvent(event);
        return world.live[site].held.holds(event);
    }

    public int site(int site, int what) throws IndexOutOfBoundsException, IllegalArgumentException {
        needSite(site);
        needWhat(what, 8);
        Site one = world.live[site];
        switch (what) {
            case 0: return world.events.clock[site];
            case 1: return one.view.size();
            case 2: return one.logged;
            case 3: return one.held.size();
            case 4: return paper.overstatedAt(site);
            case 5: return paper.lostTo(site);
            case 6: return paper.heldByAll();
            default: return paper.heldByAllInLog(site);
        }
    }

    public int unlike(int site, int other) throws IndexOutOfBoundsException {
        needTwoSites(site, other);
        EventSet mine = world.live[site].view;
        return mine.size() - mine.shared(world.live[other].view);
    }

    public int would(int from, int to, int what) throws IndexOutOfBoundsException, IllegalArgumentException {
        needTwoSites(from, to);
        needWhat(what, 3);
        return paper.wouldCarry(from, to, what);
    }

    // ---- events, told

    public int event(int event, int what) throws IndexOutOfBoundsException, IllegalArgumentException {
        needEvent(event);
        needWhat(what, 9);
        Events all = world.events;
        switch (what) {
            case 0: return all.origin[event];
            case 1: return all.time[event];
            case 2: return all.isOut(event) ? 1 : 0;
            case 3: return all.mark[event];
            case 4: return all.name[event];
            case 5: return world.holders(event);
            case 6: return world.logsWith(event);
            case 7: return all.height[event];
            default: return all.concurrentWith(event);
        }
    }

    public boolean ahead(int event, int other) throws IndexOutOfBoundsException {
        needEvent(event);
        needEvent(other);
        return world.events.isAhead(event, other);
    }

    public int wide(int what) throws IllegalArgumentException {
        needWhat(what, 3);
        if (what == 0) {
            return world.events.concurrentCouples();
        }
        int highest = world.events.highest();
        if (what == 2) {
            return highest;
        }
        return highest == NONE ? 0 : world.events.height[highest];
    }

    public int came(int site, int event, int what) throws IndexOutOfBoundsException, IllegalArgumentException {
        needSite(site);
        needEvent(event);
        needWhat(what, 2);
        Site one = world.live[site];
        if (!one.held.holds(event)) {
            return NONE;
        }
        return what == 0 ? one.when[event] : one.by[event];
    }

    public int way(int site, int event, int k) throws IndexOutOfBoundsException {
        needSite(site);
        needEvent(event);
        return world.wayOf(site, event, k);
    }

    public int slowest(int what) throws IllegalArgumentException {
        needWhat(what, 2);
        int slow = world.slowestEvent();
        return slow == NONE || what == 1 ? slow : world.stepsToAll(slow);
    }

    public int chain(int event, int k) throws IndexOutOfBoundsException {
        needEvent(event);
        return paper.inLongestRow(event, k);
    }

    public int between(int event, int other) throws IndexOutOfBoundsException {
        needEvent(event);
        needEvent(other);
        int number = 0;
        for (int middle = 0; middle < world.events.size; middle++) {
            if (world.events.isAhead(event, middle) && world.events.isAhead(middle, other)) {
                number++;
            }
        }
        return number;
    }

    public int front(int site, int k) throws IndexOutOfBoundsException {
        needSite(site);
        EventSet latest = paper.frontOf(site);
        return k == NONE ? latest.size() : latest.nth(k);
    }

    public int only(int site, int other, int k) throws IndexOutOfBoundsException {
        needTwoSites(site, other);
        return paper.onlyAt(site, other).nth(k);
    }

    public int sure(int site, int m) throws IndexOutOfBoundsException, IllegalArgumentException {
        needSite(site);
        if (m < 0 || m > world.sites) {
            throw new IllegalArgumentException("no such number of sites");
        }
        int number = 0;
        for (int event = 0; event < world.events.size; event++) {
            if (world.live[site].held.holds(event)
                    && world.live[site].sitesThatKnow(world.events, event, world.sites) >= m) {
                number++;
            }
        }
        return number;
    }

    public int part(int site) throws IndexOutOfBoundsException {
        if (site == NONE) {
            return world.parts();
        }
        needSite(site);
        return world.partOf(site);
    }

    public int trace(int k, int what) throws NoSuchElementException, IllegalArgumentException {
        if (k < 0 || k >= steps.size) {
            throw new NoSuchElementException("not so many steps in the trace");
        }
        needWhat(what, 4);
        return steps.told(k, what);
    }

    // ---- ahead of time

    public int gossip(int what) throws IllegalArgumentException {
        needWhat(what, 4);
        return paper.playGossip(what);
    }

    public int falling(int site, int what) throws IndexOutOfBoundsException, IllegalArgumentException {
        needSite(site);
        needWhat(what, 4);
        return paper.ifFallen(site, what);
    }

    public int joining(int site, int by, int what) throws IndexOutOfBoundsException, IllegalArgumentException {
        needTwoSites(site, by);
        needWhat(what, 4);
        return paper.ifJoined(site, by, what);
    }

    public int best(int site) throws IndexOutOfBoundsException {
        needSite(site);
        return paper.bestToJoin(site);
    }

    public int fewest(int k) {
        couples.find();
        if (k == NONE) {
            return couples.length;
        }
        return k < 0 || k >= couples.length ? NONE : couples.told(k);
    }

    public int count(int what) {
        switch (what) {
            case 0: return world.sites;
            case 1: return world.mode;
            case 2: return world.events.size;
            case 3: return world.lettersThatWait();
            case 4: return world.written;
            case 5: return world.carried;
            case 6: return world.stale;
            case 7: return paper.overstatedCells();
            case 8: return paper.firstOverstated();
            case 9: return paper.lostInAll();
            case 10: return paper.heldByAll();
            case 11: return world.viewsAreAlike() ? 1 : 0;
            case 12: return world.steps;
            case 13: return world.cutLinks();
            default: return NONE;
        }
    }

    // ---- what the calls above need

    private void needSite(int site) {
        if (site < 0 || site >= world.sites) {
            throw new IndexOutOfBoundsException("no such site");
        }
    }

    private void needTwoSites(int site, int other) {
        if (site < 0 || site >= world.sites || other < 0 || other >= world.sites || site == other) {
            throw new IndexOutOfBoundsException("no such two sites");
        }
    }

    private void needEvent(int event) {
        if (!world.events.contains(event)) {
            throw new IndexOutOfBoundsException("no such event");
        }
    }

    private void needRoomForEvent() {
        if (world.events.isFull()) {
            throw new IllegalStateException("there are 120 events");
        }
    }

    private void needName(int name) {
        if (name < 0 || name >= MOST_NAMES) {
            throw new IllegalArgumentException("no such name");
        }
    }

    private void needLetter(int from, int to, int k) {
        if (k < 0 || k >= world.row(from, to).size) {
            throw new NoSuchElementException("no such letter waits");
        }
    }

    private void needImage(int k) {
        if (k < 0 || k >= IMAGES) {
            throw new IllegalArgumentException("no such image");
        }
    }

    private void needWhat(int what, int kinds) {
        if (what < 0 || what >= kinds) {
            throw new IllegalArgumentException("no such what");
        }
    }

    private int traced(int what, int site, int answer) {
        steps.record(world.steps, what, site, answer);
        return answer;
    }

    private int draw(int m) {
        drawn = (1103515245L * drawn + 12345L) & 0x7fffffffL;
        return m > 0 ? (int) ((drawn >> 6) % m) : 0;
    }

    private void doByChance() {
        int kind = draw(8);
        int first = draw(world.sites);
        if (kind <= 1) {
            inByChance(first);
            return;
        }
        if (kind == 2) {
            outByChance(first);
            return;
        }
        int other = draw(world.sites);
        if (other == first) {
            other = world.nextSite(first);
        }
        if (kind <= 5) {
            letterByChance(first, other);
        } else {
            comingByChance(first, other);
        }
    }

    private void inByChance(int site) {
        int name = draw(MOST_NAMES);
        if (!world.events.isFull()) {
            traced(DID_ADD, site, world.bringIn(site, name));
        }
    }

    private void outByChance(int site) {
        int elements = world.live[site].view.size();
        if (elements == 0) {
            return;
        }
        int mark = world.live[site].view.nth(draw(elements));
        if (mark != NONE && !world.events.isFull()) {
            traced(DID_TAKE, site, world.takeOut(site, mark));
        }
    }

    private void letterByChance(int from, int to) {
        if (world.canPost(from, to)) {
            traced(DID_WRITE, from, world.post(from, to));
        }
    }

    private void comingByChance(int from, int to) {
        int waiting = world.row(from, to).size;
        if (waiting == 0) {
            return;
        }
        int k = draw(waiting);
        if (!world.isCut(from, to)) {
            traced(DID_COME, from, world.deliver(from, to, k));
        }
    }

    private static int cell(int row, int at) {
        return row * MOST_SITES + at;
    }

    /** A set of events, as bits, so that sets are copied and counted cheaply. */
    private static final class EventSet {
        long low;
        long high;

        void clear() {
            low = 0;
            high = 0;
        }

        void copyOf(EventSet other) {
            low = other.low;
            high = other.high;
        }

        void insert(int event) {
            if (event < HALF) {
                low |= 1L << event;
            } else {
                high |= 1L << (event - HALF);
            }
        }

        void remove(int event) {
            if (event < HALF) {
                low &= ~(1L << event);
            } else {
                high &= ~(1L << (event - HALF));
            }
        }

        void insertAll(EventSet other) {
            low |= other.low;
            high |= other.high;
        }

        void removeAll(EventSet other) {
            low &= ~other.low;
            high &= ~other.high;
        }

        void retainAll(EventSet other) {
            low &= other.low;
            high &= other.high;
        }

        boolean holds(int event) {
            long half = event < HALF ? low >>> event : high >>> (event - HALF);
            return (half & 1L) != 0;
        }

        boolean sameAs(EventSet other) {
            return low == other.low && high == other.high;
        }

        int size() {
            return Long.bitCount(low) + Long.bitCount(high);
        }

        int shared(EventSet other) {
            return Long.bitCount(low & other.low) + Long.bitCount(high & other.high);
        }

        /** The k-th event (0 the first) by numbers, or NONE. */
        int nth(int k) {
            int left = k;
            for (int event = 0; event < MOST_EVENTS && left >= 0; event++) {
                if (holds(event)) {
                    if (left == 0) {
                        return event;
                    }
                    left--;
                }
            }
            return NONE;
        }
    }

    /** All events that came, at whatever site, and what was ahead of each. */
    private static final class Events {
        int size;
        final int[] clock = new int[MOST_SITES];
        final int[] origin = new int[MOST_EVENTS];
        final int[] time = new int[MOST_EVENTS];
        final int[] mark = new int[MOST_EVENTS];
        final int[] name = new int[MOST_EVENTS];
        final int[] step = new int[MOST_EVENTS];
        final int[] height = new int[MOST_EVENTS];
        final EventSet[] before = new EventSet[MOST_EVENTS];

        Events() {
            for (int event = 0; event < MOST_EVENTS; event++) {
                before[event] = new EventSet();
            }
        }

        void clear() {
            size = 0;
            for (int site = 0; site < MOST_SITES; site++) {
                clock[site] = 0;
            }
        }

        void copyOf(Events other) {
            size = other.size;
            System.arraycopy(other.clock, 0, clock, 0, MOST_SITES);
            System.arraycopy(other.origin, 0, origin, 0, size);
            System.arraycopy(other.time, 0, time, 0, size);
            System.arraycopy(other.mark, 0, mark, 0, size);
            System.arraycopy(other.name, 0, name, 0, size);
            System.arraycopy(other.step, 0, step, 0, size);
            System.arraycopy(other.height, 0, height, 0, size);
            for (int event = 0; event < size; event++) {
                before[event].copyOf(other.before[event]);
            }
        }

        boolean contains(int event) {
            return event >= 0 && event < size;
        }

        boolean isFull() {
            return size >= MOST_EVENTS;
        }

        boolean isOut(int event) {
            return mark[event] != event;
        }

        boolean isAhead(int event, int other) {
            return before[other].holds(event);
        }

        /** The caller has made sure that there is room. */
        int append(int site, int ofMark, int ofName, int atStep, EventSet held) {
            int event = size;
            size++;
            clock[site]++;
            origin[event] = site;
            time[event] = clock[site];
            mark[event] = ofMark;
            name[event] = ofName;
            step[event] = atStep;
            before[event].copyOf(held);
            height[event] = 1;
            for (int other = 0; other < event; other++) {
                if (height[other] >= height[event] && held.holds(other)) {
                    height[event] = height[other] + 1;
                }
            }
            return event;
        }

        /** What is ahead of an event came earlier, so its number is lower. */
        int concurrentWith(int event) {
            int number = event - before[event].size();
            for (int later = event + 1; later < size; later++) {
                if (!before[later].holds(event)) {
                    number++;
                }
            }
            return number;
        }

        int concurrentCouples() {
            int number = 0;
            for (int event = 0; event < size; event++) {
                number += event - before[event].size();
            }
            return number;
        }

        /** The first event of the greatest height, or NONE. */
        int highest() {
            int found = NONE;
            for (int event = 0; event < size; event++) {
                if (found == NONE || height[event] > height[found]) {
                    found = event;
                }
            }
            return found;
        }
    }

    /** What a site has, or saved: all that goes when it falls, and so not its clock. */
    private static final class Site {
        final EventSet view = new EventSet();
        final EventSet held = new EventSet();
        final int[] log = new int[MOST_EVENTS];
        int logged;
        final int[] table = new int[CELLS];
        final int[] when = new int[MOST_EVENTS];
        final int[] by = new int[MOST_EVENTS];

        void clear() {
            view.clear();
            held.clear();
            logged = 0;
            for (int i = 0; i < CELLS; i++) {
                table[i] = 0;
            }
        }

        void copyOf(Site other) {
            view.copyOf(other.view);
            held.copyOf(other.held);
            copyLog(other);
            System.arraycopy(other.table, 0, table, 0, CELLS);
            System.arraycopy(other.when, 0, when, 0, MOST_EVENTS);
            System.arraycopy(other.by, 0, by, 0, MOST_EVENTS);
        }

        private void copyLog(Site other) {
            logged = other.logged;
            System.arraycopy(other.log, 0, log, 0, logged);
        }

        boolean isKnown(Events events, int to, int event) {
            return table[to * MOST_SITES + events.origin[event]] >= events.time[event];
        }

        int sitesThatKnow(Events events, int event, int sites) {
            int number = 0;
            for (int to = 0; to < sites; to++) {
                if (isKnown(events, to, event)) {
                    number++;
                }
            }
            return number;
        }

        boolean logHolds(int event) {
            for (int i = 0; i < logged; i++) {
                if (log[i] == event) {
                    return true;
                }
            }
            return false;
        }

        void ownEvent(Events events, int event) {
            int me = events.origin[event];
            table[cell(me, me)] = events.time[event];
            gain(event, events.step[event], me);
            appendToLog(event);
        }

        private void appendToLog(int event) {
            if (logged < MOST_EVENTS) {
                log[logged] = event;
                logged++;
            }
        }

        private void gain(int event, int step, int from) {
            if (!held.holds(event)) {
                held.insert(event);
                when[event] = step;
                by[event] = from;
            }
        }

        /** A letter comes here: how many of its events were new. */
        int receive(Letter letter, Events events, int sites, int step) {
            int loggedAtFirst = logged;
            for (int i = 0; i < letter.size; i++) {
                if (!isKnown(events, letter.to, letter.list[i])) {
                    appendToLog(letter.list[i]);
                }
            }
            int fresh = logged - loggedAtFirst;
            for (int i = loggedAtFirst; i < logged; i++) {
                gain(log[i], step, letter.from);
            }
            changeView(events, loggedAtFirst);
            learn(letter, events);
            dropKnownToAll(events, sites);
            return fresh;
        }

        /** All new elements come ahead of any that goes: in a log an out may stand ahead of its in. */
        private void changeView(Events events, int start) {
            for (int i = start; i < logged; i++) {
                if (!events.isOut(log[i])) {
                    view.insert(log[i]);
                }
            }
            for (int i = start; i < logged; i++) {
                if (events.isOut(log[i])) {
                    view.remove(events.mark[log[i]]);
                }
            }
        }

        private void learn(Letter letter, Events events) {
            if (letter.mode == NO_TABLE) {
                for (int i = 0; i < letter.size; i++) {
                    int event = letter.list[i];
                    raise(letter.to, events.origin[event], events.time[event]);
                    raise(letter.from, events.origin[event], events.time[event]);
                }
                return;
            }
            raiseRow(letter.to, letter.table, letter.from);
            if (letter.mode == OWN_ROW) {
                raiseRow(letter.from, letter.table, letter.from);
                return;
            }
            for (int row = 0; row < MOST_SITES; row++) {
                raiseRow(row, letter.table, row);
            }
        }

        private void raiseRow(int row, int[] other, int otherRow) {
            for (int at = 0; at < MOST_SITES; at++) {
                int i = row * MOST_SITES + at;
                int time = other[otherRow * MOST_SITES + at];
                table[i] = time > table[i] ? time : table[i];
            }
        }

        private void raise(int row, int at, int time) {
            int i = row * MOST_SITES + at;
            table[i] = time > table[i] ? time : table[i];
        }

        private void dropKnownToAll(Events events, int sites) {
            int left = 0;
            for (int i = 0; i < logged; i++) {
                if (!isKnownToAll(events, log[i], sites)) {
                    log[left] = log[i];
                    left++;
                }
            }
            logged = left;
        }

        private boolean isKnownToAll(Events events, int event, int sites) {
            for (int i = events.origin[event]; i < sites * MOST_SITES; i += MOST_SITES) {
                if (table[i] < events.time[event]) {
                    return false;
                }
            }
            return true;
        }

        /** Site me becomes as another one, but for what it held already: that came when it came. */
        void adopt(Site other, int me, int from, int clock, int step) {
            view.copyOf(other.view);
            copyLog(other);
            for (int event = 0; event < MOST_EVENTS; event++) {
                if (other.held.holds(event)) {
                    gain(event, step, from);
                }
            }
            held.copyOf(other.held);
            System.arraycopy(other.table, 0, table, 0, CELLS);
            System.arraycopy(other.table, cell(from, 0), table, cell(me, 0), MOST_SITES);
            table[cell(me, me)] = clock;
        }
    }

    /** What one site wrote to another one: its events in order, and its table as it was. */
    private static final class Letter {
        int from;
        int to;
        int mode;
        int size;
        final int[] list = new int[MOST_EVENTS];
        final EventSet content;
        final int[] table = new int[CELLS];

        /** The set comes from the maker, so that calls stay eight deep where a letter is made. */
        Letter(EventSet content) {
            this.content = content;
        }

        void copyOf(Letter other) {
            from = other.from;
            to = other.to;
            mode = other.mode;
            size = other.size;
            System.arraycopy(other.list, 0, list, 0, size);
            content.copyOf(other.content);
            System.arraycopy(other.table, 0, table, 0, CELLS);
        }

        void compose(Site sender, Events events, int fromSite, int toSite, int byMode) {
            from = fromSite;
            to = toSite;
            mode = byMode;
            size = 0;
            content.clear();
            for (int i = 0; i < sender.logged; i++) {
                if (!sender.isKnown(events, toSite, sender.log[i])) {
                    list[size] = sender.log[i];
                    size++;
                    content.insert(sender.log[i]);
                }
            }
            System.arraycopy(sender.table, 0, table, 0, CELLS);
        }
    }

    /** The letters that wait for one couple of sites; those that are gone are used again. */
    private static final class LetterRow {
        int size;
        final Letter[] slots = new Letter[MOST_WAITING];

        void copyOf(LetterRow other) {
            size = 0;
            for (int k = 0; k < other.size; k++) {
                append().copyOf(other.at(k));
            }
        }

        boolean isFull() {
            return size >= MOST_WAITING;
        }

        /** A letter is there for each k below size, and is made where none was yet. */
        Letter at(int k) {
            Letter one = slots[k];
            if (one == null) {
                one = new Letter(new EventSet());
                slots[k] = one;
            }
            return one;
        }

        /** The caller has made sure that there is room. */
        Letter append() {
            size++;
            return at(size - 1);
        }

        void remove(int k) {
            Letter gone = slots[k];
            for (int i = k; i + 1 < size; i++) {
                slots[i] = slots[i + 1];
            }
            size--;
            slots[size] = gone;
        }
    }

    /** All that an image keeps. */
    private static final class World {
        int sites = FIRST_SITES;
        int mode;
        int steps;
        int written;
        int carried;
        int stale;
        final Events events = new Events();
        final Site[] live = new Site[MOST_SITES];
        final Site[] saved = new Site[MOST_SITES];
        final LetterRow[] rows = new LetterRow[CELLS];
        final boolean[] cut = new boolean[CELLS];

        World() {
            for (int site = 0; site < MOST_SITES; site++) {
                live[site] = new Site();
                saved[site] = new Site();
            }
            for (int i = 0; i < CELLS; i++) {
                rows[i] = new LetterRow();
            }
        }

        void begin(int n) {
            sites = n;
            steps = 0;
            written = 0;
            carried = 0;
            stale = 0;
            events.clear();
            for (int site = 0; site < MOST_SITES; site++) {
                live[site].clear();
                saved[site].clear();
            }
            for (int i = 0; i < CELLS; i++) {
                rows[i].size = 0;
                cut[i] = false;
            }
        }

        void copyOf(World other) {
            sites = other.sites;
            mode = other.mode;
            steps = other.steps;
            written = other.written;
            carried = other.carried;
            stale = other.stale;
            events.copyOf(other.events);
            for (int site = 0; site < MOST_SITES; site++) {
                live[site].copyOf(other.live[site]);
                saved[site].copyOf(other.saved[site]);
            }
            for (int i = 0; i < CELLS; i++) {
                rows[i].copyOf(other.rows[i]);
                cut[i] = other.cut[i];
            }
        }

        int nextSite(int site) {
            return site + 1 < sites ? site + 1 : 0;
        }

        LetterRow row(int from, int to) {
            return rows[cell(from, to)];
        }

        boolean isCut(int site, int other) {
            return cut[cell(site, other)];
        }

        boolean canPost(int from, int to) {
            return !row(from, to).isFull() && !isCut(from, to);
        }

        // Each of the following is one step; the caller has made sure that it can be.

        int bringIn(int site, int name) {
            int event = happen(site, events.size, name);
            live[site].view.insert(event);
            return event;
        }

        int takeOut(int site, int mark) {
            int event = happen(site, mark, events.name[mark]);
            live[site].view.remove(mark);
            return event;
        }

        private int happen(int site, int mark, int name) {
            steps++;
            int event = events.append(site, mark, name, steps, live[site].held);
            live[site].ownEvent(events, event);
            return event;
        }

        int post(int from, int to) {
            steps++;
            Letter one = row(from, to).append();
            one.compose(live[from], events, from, to, mode);
            written++;
            carried += one.size;
            return one.size;
        }

        int deliver(int from, int to, int k) {
            steps++;
            Letter one = row(from, to).at(k);
            int fresh = live[to].receive(one, events, sites, steps);
            stale += one.size - fresh;
            row(from, to).remove(k);
            return fresh;
        }

        int discard(int from, int to, int k) {
            steps++;
            row(from, to).remove(k);
            return row(from, to).size;
        }

        int repeat(int from, int to, int k) {
            steps++;
            Letter one = row(from, to).at(k);
            row(from, to).append().copyOf(one);
            return row(from, to).size;
        }

        int store(int site) {
            steps++;
            saved[site].copyOf(live[site]);
            return live[site].held.size();
        }

        int restore(int site) {
            steps++;
            EventSet held = live[site].held;
            int gone = held.size() - held.shared(saved[site].held);
            live[site].copyOf(saved[site]);
            return gone;
        }

        int adopt(int site, int by) {
            steps++;
            live[site].adopt(live[by], site, by, events.clock[site], steps);
            return live[site].held.size();
        }

        void setLink(int site, int other, boolean is) {
            steps++;
            cut[cell(site, other)] = is;
            cut[cell(other, site)] = is;
        }

        // What follows only tells.

        int holders(int event) {
            int number = 0;
            for (int site = 0; site < sites; site++) {
                if (live[site].held.holds(event)) {
                    number++;
                }
            }
            return number;
        }

        int logsWith(int event) {
            int number = 0;
            for (int site = 0; site < sites; site++) {
                if (live[site].logHolds(event)) {
                    number++;
                }
            }
            return number;
        }

        /** The way's k-th site, its length for k NONE; it may go round, so n sites end it. */
        int wayOf(int site, int event, int k) {
            if (!live[site].held.holds(event)) {
                return NONE;
            }
            int at = site;
            int length = 1;
            while (length < sites && k != length - 1 && live[at].held.holds(event) && live[at].by[event] != at) {
                at = live[at].by[event];
                length++;
            }
            if (k == NONE) {
                return length;
            }
            return k == length - 1 ? at : NONE;
        }

        int slowestEvent() {
            int found = NONE;
            for (int event = 0; event < events.size; event++) {
                if (holders(event) == sites && (found == NONE || stepsToAll(event) > stepsToAll(found))) {
                    found = event;
                }
            }
            return found;
        }

        /** From an event's coming till the last site came to have it; all have it. */
        int stepsToAll(int event) {
            int last = events.step[event];
            for (int site = 0; site < sites; site++) {
                last = Math.max(last, live[site].when[event]);
            }
            return last - events.step[event];
        }

        int lettersThatWait() {
            int number = 0;
            for (int i = 0; i < CELLS; i++) {
                number += rows[i].size;
            }
            return number;
        }

        boolean viewsAreAlike() {
            for (int site = 1; site < sites; site++) {
                if (!live[site].view.sameAs(live[0].view)) {
                    return false;
                }
            }
            return true;
        }

        int cutLinks() {
            int number = 0;
            for (int site = 0; site < sites; site++) {
                for (int other = site + 1; other < sites; other++) {
                    if (isCut(site, other)) {
                        number++;
                    }
                }
            }
            return number;
        }

        /** As many passes as there are sites reach whatever can be reached. */
        int partOf(int site) {
            int bits = 1 << site;
            for (int pass = 0; pass < sites; pass++) {
                for (int one = 0; one < sites; one++) {
                    if ((bits >> one & 1) != 0) {
                        bits |= linkedWith(one);
                    }
                }
            }
            return bits;
        }

        private int linkedWith(int site) {
            int bits = 0;
            for (int other = 0; other < sites; other++) {
                if (!isCut(site, other)) {
                    bits |= 1 << other;
                }
            }
            return bits;
        }

        /** Each part is counted at the least of its sites. */
        int parts() {
            int number = 0;
            for (int site = 0; site < sites; site++) {
                int lower = (1 << site) - 1;
                if ((partOf(site) & lower) == 0) {
                    number++;
                }
            }
            return number;
        }
    }

    /** The latest steps, in a ring. */
    private static final class Trace {
        int size;
        private int next;
        private final int[] step = new int[TRACED];
        private final int[] kind = new int[TRACED];
        private final int[] first = new int[TRACED];
        private final int[] answer = new int[TRACED];

        void forget() {
            size = 0;
            next = 0;
        }

        void record(int atStep, int what, int site, int answered) {
            step[next] = atStep;
            kind[next] = what;
            first[next] = site;
            answer[next] = answered;
            next = next + 1 < TRACED ? next + 1 : 0;
            size = size < TRACED ? size + 1 : TRACED;
        }

        /** Of the k-th latest, k from 0 to below size. */
        int told(int k, int what) {
            int i = next - 1 - k;
            if (i < 0) {
                i += TRACED;
            }
            switch (what) {
                case 0: return step[i];
                case 1: return kind[i];
                case 2: return first[i];
                default: return answer[i];
            }
        }
    }

    /** What is only reckoned, with rows of its own that are used again and again. */
    private static final class Paper {
        private final World world;
        private final Site[] sites = new Site[MOST_SITES];
        private final Letter letter = new Letter(new EventSet());
        private final EventSet found = new EventSet();
        private final EventSet other = new EventSet();
        private final int[] missing = new int[CELLS];

        Paper(World world) {
            this.world = world;
            for (int site = 0; site < MOST_SITES; site++) {
                sites[site] = new Site();
            }
        }

        // ---- overstated cells

        /** For each couple of sites the least time of the second one's events that the first one lacks; 0: none. */
        private void findMissing() {
            for (int i = 0; i < CELLS; i++) {
                missing[i] = 0;
            }
            for (int site = 0; site < world.sites; site++) {
                for (int event = 0; event < world.events.size; event++) {
                    int i = cell(site, world.events.origin[event]);
                    if (missing[i] == 0 && !world.live[site].held.holds(event)) {
                        missing[i] = world.events.time[event];
                    }
                }
            }
        }

        /** findMissing() has been called for the world as it is. */
        private boolean isOverstated(int site, int i) {
            return missing[i] > 0 && world.live[site].table[i] >= missing[i];
        }

        int overstatedAt(int site) {
            findMissing();
            return countOverstated(site);
        }

        private int countOverstated(int site) {
            int number = 0;
            for (int i = 0; i < CELLS; i++) {
                if (isOverstated(site, i)) {
                    number++;
                }
            }
            return number;
        }

        int overstatedCells() {
            findMissing();
            int number = 0;
            for (int site = 0; site < world.sites; site++) {
                number += countOverstated(site);
            }
            return number;
        }

        int firstOverstated() {
            findMissing();
            for (int site = 0; site < world.sites; site++) {
                for (int row = 0; row < world.sites; row++) {
                    for (int at = 0; at < world.sites; at++) {
                        if (isOverstated(site, cell(row, at))) {
                            return 100 * site + 10 * row + at;
                        }
                    }
                }
            }
            return NONE;
        }

        // ---- lost events

        int lostTo(int site) {
            found.clear();
            for (int from = 0; from < world.sites; from++) {
                findStillToBeTold(from, site);
            }
            findOnTheWay(site);
            found.insertAll(world.live[site].held);
            return world.events.size - found.size();
        }

        private void findStillToBeTold(int from, int site) {
            Site sender = world.live[from];
            for (int i = 0; i < sender.logged; i++) {
                if (!sender.isKnown(world.events, site, sender.log[i])) {
                    found.insert(sender.log[i]);
                }
            }
        }

        private void findOnTheWay(int site) {
            other.clear();
            for (int from = 0; from < world.sites; from++) {
                LetterRow row = world.row(from, site);
                for (int k = 0; k < row.size; k++) {
                    other.insertAll(row.at(k).content);
                }
            }
            for (int event = 0; event < world.events.size; event++) {
                if (other.holds(event) && !world.live[site].isKnown(world.events, site, event)) {
                    found.insert(event);
                }
            }
        }

        int lostInAll() {
            int number = 0;
            for (int site = 0; site < world.sites; site++) {
                number += lostTo(site);
            }
            return number;
        }

        // ---- sets of events

        int heldByAll() {
            found.copyOf(world.live[0].held);
            for (int site = 1; site < world.sites; site++) {
                found.retainAll(world.live[site].held);
            }
            return found.size();
        }

        int heldByAllInLog(int site) {
            heldByAll();
            int number = 0;
            Site one = world.live[site];
            for (int i = 0; i < one.logged; i++) {
                if (found.holds(one.log[i])) {
                    number++;
                }
            }
            return number;
        }

        EventSet frontOf(int site) {
            EventSet held = world.live[site].held;
            found.copyOf(held);
            for (int event = 0; event < world.events.size; event++) {
                if (held.holds(event)) {
                    found.removeAll(world.events.before[event]);
                }
            }
            return found;
        }

        EventSet onlyAt(int site, int unlikeSite) {
            found.copyOf(world.live[site].view);
            found.removeAll(world.live[unlikeSite].view);
            return found;
        }

        int wouldCarry(int from, int to, int what) {
            letter.compose(world.live[from], world.events, from, to, world.mode);
            if (what == 0) {
                return letter.size;
            }
            if (what == 1) {
                return letter.content.shared(world.live[to].held);
            }
            found.copyOf(world.live[from].held);
            found.removeAll(world.live[to].held);
            found.removeAll(letter.content);
            return found.size();
        }

        // ---- the longest row that ends with an event

        int inLongestRow(int event, int k) {
            if (k < 0 || k >= world.events.height[event]) {
                return NONE;
            }
            findLongestRows(event);
            int at = NONE;
            int height = 0;
            for (int next = 0; next <= event && height <= k; next++) {
                if (found.holds(next) && world.events.height[next] == height + 1
                        && (at == NONE || world.events.isAhead(at, next))) {
                    at = next;
                    height++;
                }
            }
            return at;
        }

        /** All events of any longest row that ends with this one: in such a row heights rise by one. */
        private void findLongestRows(int last) {
            Events events = world.events;
            found.clear();
            found.insert(last);
            for (int event = last; event > 0; event--) {
                if (!found.holds(event)) {
                    continue;
                }
                for (int lower = 0; lower < event; lower++) {
                    if (events.isAhead(lower, event) && events.height[lower] == events.height[event] - 1) {
                        found.insert(lower);
                    }
                }
            }
        }

        // ---- gossip

        int playGossip(int what) {
            for (int site = 0; site < world.sites; site++) {
                sites[site].copyOf(world.live[site]);
            }
            int carried = 0;
            int fresh = 0;
            for (int round = 0; round <= ROUNDS; round++) {
                boolean nothingToTell = allLogsAreEmpty();
                if (what == 0 && allHaveAlike() || what == 1 && nothingToTell) {
                    return round;
                }
                if (nothingToTell) {
                    break;
                }
                for (int site = 0; site < world.sites && round < ROUNDS; site++) {
                    if (!world.isCut(site, world.nextSite(site))) {
                        fresh += tellNext(site);
                        carried += letter.size;
                    }
                }
            }
            if (what <= 1) {
                return NONE;
            }
            return what == 2 ? carried : carried - fresh;
        }

        private int tellNext(int site) {
            int next = world.nextSite(site);
            letter.compose(sites[site], world.events, site, next, world.mode);
            return sites[next].receive(letter, world.events, world.sites, world.steps);
        }

        private boolean allHaveAlike() {
            for (int site = 1; site < world.sites; site++) {
                if (!sites[site].held.sameAs(sites[0].held)) {
                    return false;
                }
            }
            return true;
        }

        private boolean allLogsAreEmpty() {
            for (int site = 0; site < world.sites; site++) {
                if (sites[site].logged > 0) {
                    return false;
                }
            }
            return true;
        }

        // ---- were a site to fall, or to join

        int ifFallen(int site, int what) {
            sites[site].copyOf(world.saved[site]);
            return reckonWith(site, what);
        }

        int ifJoined(int site, int by, int what) {
            joinOnPaper(site, by);
            return reckonWith(site, what);
        }

        /** Whatever stood on the paper's site goes, but for when and by whom events came: none asks for that. */
        private void joinOnPaper(int site, int by) {
            sites[site].adopt(world.live[by], site, by, world.events.clock[site], world.steps);
        }

        /** The paper's site stands in for the live one while it is looked at. */
        private int reckonWith(int site, int what) {
            Site now = world.live[site];
            world.live[site] = sites[site];
            int answer;
            switch (what) {
                case 0: answer = sites[site].held.size(); break;
                case 1: answer = lostTo(site); break;
                case 2: answer = overstatedAt(site); break;
                default: answer = overstatedCells(); break;
            }
            world.live[site] = now;
            return answer;
        }

        int bestToJoin(int site) {
            Site now = world.live[site];
            int best = NONE;
            int lost = 0;
            int held = 0;
            for (int by = 0; by < world.sites; by++) {
                if (by == site) {
                    continue;
                }
                joinOnPaper(site, by);
                world.live[site] = sites[site];
                int lostThen = lostTo(site);
                world.live[site] = now;
                int heldThen = sites[site].held.size();
                if (best == NONE || lostThen < lost || lostThen == lost && heldThen > held) {
                    best = by;
                    lost = lostThen;
                    held = heldThen;
                }
            }
            return best;
        }
    }

    /**
     * The fewest couples by which all sites come to have like events. Events that are at
     * the same sites go the same ways, so a site's events are told by a set of kinds: kind
     * b stands for all events that just the sites of the bits of b have.
     */
    private static final class Couples {
        private static final int SITES = 4;
        private static final int LONGEST = 2 * SITES - 2;

        int length;
        private int all;
        private final World world;
        private final int[] first = new int[LONGEST];
        private final int[] second = new int[LONGEST];
        private final int[] kinds = new int[(LONGEST + 1) * SITES];

        Couples(World world) {
            this.world = world;
        }

        int told(int k) {
            return 10 * first[k] + second[k];
        }

        void find() {
            length = NONE;
            if (world.sites > SITES) {
                return;
            }
            findKinds();
            if (!eachPartHasAll()) {
                return;
            }
            // A part of m sites is alike after 2 m - 2 couples: to one of them, and back.
            for (int limit = leastFrom(0); limit <= LONGEST && length == NONE; limit++) {
                if (search(this, 0, limit)) {
                    length = limit;
                }
            }
        }

        private void findKinds() {
            all = 0;
            for (int event = 0; event < world.events.size; event++) {
                int kind = 0;
                for (int site = 0; site < world.sites; site++) {
                    if (world.live[site].held.holds(event)) {
                        kind |= 1 << site;
                    }
                }
                all |= kind == 0 ? 0 : 1 << kind;
            }
            for (int site = 0; site < world.sites; site++) {
                kinds[site] = 0;
                for (int kind = 1; kind < 1 << world.sites; kind++) {
                    if ((kind >> site & 1) != 0) {
                        kinds[site] |= all & 1 << kind;
                    }
                }
            }
        }

        private boolean eachPartHasAll() {
            for (int site = 0; site < world.sites; site++) {
                if (joined(0, world.partOf(site)) != all) {
                    return false;
                }
            }
            return true;
        }

        /** The kinds that the sites of these bits have together, after so many couples. */
        private int joined(int depth, int bits) {
            int together = 0;
            for (int site = 0; site < world.sites; site++) {
                if ((bits >> site & 1) != 0) {
                    together |= kinds[depth * SITES + site];
                }
            }
            return together;
        }

        /**
         * No fewer couples than this can be left: each makes one site complete at most, and
         * ahead of the first complete one the events of some sites must be brought together.
         */
        private int leastFrom(int depth) {
            int lacking = 0;
            for (int site = 0; site < world.sites; site++) {
                if (kinds[depth * SITES + site] != all) {
                    lacking++;
                }
            }
            if (lacking < world.sites) {
                return lacking;
            }
            int together = world.sites;
            for (int bits = 1; bits < 1 << world.sites; bits++) {
                if (joined(depth, bits) == all) {
                    together = Math.min(together, Integer.bitCount(bits));
                }
            }
            return together - 1 + lacking - 1;
        }

        /** Couples are tried in order, so that the first row found is the first of its length. */
        private static boolean search(Couples row, int depth, int limit) {
            int least = row.leastFrom(depth);
            if (least == 0) {
                return depth == limit;
            }
            if (depth >= LONGEST || depth + least > limit) {
                return false;
            }
            for (int from = 0; from < row.world.sites; from++) {
                for (int to = 0; to < row.world.sites; to++) {
                    if (row.tell(depth, from, to) && search(row, depth + 1, limit)) {
                        return true;
                    }
                }
            }
            return false;
        }

        /** Whether this couple can be and brings something: no shortest row has one that does not. */
        private boolean tell(int depth, int from, int to) {
            int now = depth * SITES;
            int then = now + SITES;
            int more = kinds[now + from] | kinds[now + to];
            if (from == to || world.isCut(from, to) || more == kinds[now + to]) {
                return false;
            }
            for (int site = 0; site < world.sites; site++) {
                kinds[then + site] = kinds[now + site];
            }
            kinds[then + to] = more;
            first[depth] = from;
            second[depth] = to;
            return true;
        }
    }
}
