import java.util.ArrayList;
import java.util.BitSet;
import java.util.Comparator;
import java.util.HashSet;
import java.util.List;
import java.util.NoSuchElementException;
import java.util.Set;
import java.util.TreeMap;
import java.util.TreeSet;

/**
 * The document told again with sets, lists and maps, as slowly and as near to its words as can
 * be: random calls must have like answers from this and from GossipTables.
 */
public final class PlainModel {
    private static final int NONE = -1;

    private static final class Event {
        int number, site, time, mark, name, step;
        boolean out;
        Set<Integer> hadAhead;
    }

    private static final class Place {
        TreeSet<Integer> view = new TreeSet<>();
        List<Integer> log = new ArrayList<>();
        int[][] table;
        TreeMap<Integer, int[]> has = new TreeMap<>(); // event: when, by

        Place(int n) {
            table = new int[n][n];
        }

        Place copy() {
            Place p = new Place(table.length);
            p.view.addAll(view);
            p.log.addAll(log);
            p.table = copyOf(table);
            p.has.putAll(has);
            return p;
        }

        boolean known(Event e, int to) {
            return table[to][e.site] >= e.time;
        }
    }

    private static final class Post {
        int mode;
        List<Integer> events;
        int[][] table; // the whole one by mode 0
        int[] row; // by mode 1
    }

    private static final class State {
        int n, mode, steps, written, carried, stale;
        List<Event> events = new ArrayList<>();
        int[] clock;
        List<Place> places = new ArrayList<>();
        List<Place> saved = new ArrayList<>();
        TreeMap<Integer, List<Post>> posts = new TreeMap<>();
        Set<Integer> cut = new TreeSet<>();

        State(int n, int mode) {
            this.n = n;
            this.mode = mode;
            clock = new int[n];
            for (int i = 0; i < n; i++) {
                places.add(new Place(n));
                saved.add(new Place(n));
            }
        }

        State copy() {
            State s = new State(n, mode);
            s.steps = steps;
            s.written = written;
            s.carried = carried;
            s.stale = stale;
            s.events.addAll(events);
            s.clock = clock.clone();
            for (int i = 0; i < n; i++) {
                s.places.set(i, places.get(i).copy());
                s.saved.set(i, saved.get(i).copy());
            }
            posts.forEach((k, v) -> s.posts.put(k, new ArrayList<>(v)));
            s.cut.addAll(cut);
            return s;
        }

        List<Post> row(int from, int to) {
            return posts.computeIfAbsent(from * 10 + to, k -> new ArrayList<>());
        }

        boolean isCut(int a, int b) {
            return cut.contains(Math.min(a, b) * 10 + Math.max(a, b));
        }

        int happen(int site, boolean out, int mark, int name) {
            Event e = new Event();
            e.number = events.size();
            e.site = site;
            e.time = ++clock[site];
            e.out = out;
            e.mark = out ? mark : e.number;
            e.name = name;
            e.step = ++steps;
            Place p = places.get(site);
            e.hadAhead = new TreeSet<>(p.has.keySet());
            events.add(e);
            p.table[site][site] = e.time;
            p.log.add(e.number);
            p.has.put(e.number, new int[] {steps, site});
            if (out) {
                p.view.remove(mark);
            } else {
                p.view.add(e.number);
            }
            return e.number;
        }

        Post compose(int from, int to) {
            Post l = new Post();
            l.mode = mode;
            l.events = new ArrayList<>();
            Place p = places.get(from);
            for (int e : p.log) {
                if (!p.known(events.get(e), to)) {
                    l.events.add(e);
                }
            }
            l.table = mode == 0 ? copyOf(p.table) : null;
            l.row = mode == 1 ? p.table[from].clone() : null;
            return l;
        }

        int receive(Post l, int from, int to) {
            Place p = places.get(to);
            List<Event> fresh = new ArrayList<>();
            for (int e : l.events) {
                if (!p.known(events.get(e), to)) {
                    fresh.add(events.get(e));
                }
            }
            fresh.stream().filter(e -> !e.out).forEach(e -> p.view.add(e.number));
            fresh.stream().filter(e -> e.out).forEach(e -> p.view.remove(e.mark));
            fresh.forEach(e -> p.has.putIfAbsent(e.number, new int[] {steps, from}));
            if (l.mode == 0) {
                p.table[to] = greater(p.table[to], l.table[from]);
                for (int r = 0; r < n; r++) {
                    p.table[r] = greater(p.table[r], l.table[r]);
                }
            } else if (l.mode == 1) {
                p.table[to] = greater(p.table[to], l.row);
                p.table[from] = greater(p.table[from], l.row);
            } else {
                for (int number : l.events) {
                    Event e = events.get(number);
                    p.table[to][e.site] = Math.max(p.table[to][e.site], e.time);
                    p.table[from][e.site] = Math.max(p.table[from][e.site], e.time);
                }
            }
            fresh.forEach(e -> p.log.add(e.number));
            p.log.removeIf(e -> knownTo(p, events.get(e)) == n);
            return fresh.size();
        }

        int knownTo(Place p, Event e) {
            int count = 0;
            for (int s = 0; s < n; s++) {
                count += p.known(e, s) ? 1 : 0;
            }
            return count;
        }

        int fall(int site) {
            Set<Integer> had = new TreeSet<>(places.get(site).has.keySet());
            places.set(site, saved.get(site).copy());
            had.removeAll(places.get(site).has.keySet());
            return had.size();
        }

        int join(int site, int by) {
            Place old = places.get(site);
            Place p = places.get(by).copy();
            p.table[site] = places.get(by).table[by].clone();
            p.table[site][site] = clock[site];
            for (int e : places.get(by).has.keySet()) {
                p.has.put(e, old.has.containsKey(e) ? old.has.get(e) : new int[] {steps, by});
            }
            places.set(site, p);
            return p.has.size();
        }

        boolean overstated(int site, int row, int at) {
            int cell = places.get(site).table[row][at];
            for (Event e : events) {
                if (e.site == at && e.time <= cell && !places.get(row).has.containsKey(e.number)) {
                    return true;
                }
            }
            return false;
        }

        int overstated(int site) {
            int count = 0;
            for (int r = 0; r < n; r++) {
                for (int a = 0; a < n; a++) {
                    count += overstated(site, r, a) ? 1 : 0;
                }
            }
            return count;
        }

        int overstatedAll() {
            int count = 0;
            for (int s = 0; s < n; s++) {
                count += overstated(s);
            }
            return count;
        }

        boolean lost(int site, Event e) {
            if (places.get(site).has.containsKey(e.number)) {
                return false;
            }
            for (Place p : places) {
                if (p.log.contains(e.number) && !p.known(e, site)) {
                    return false;
                }
            }
            for (int from = 0; from < n; from++) {
                for (Post l : row(from, site)) {
                    if (l.events.contains(e.number) && !places.get(site).known(e, site)) {
                        return false;
                    }
                }
            }
            return true;
        }

        int lost(int site) {
            return (int) events.stream().filter(e -> lost(site, e)).count();
        }

        int holders(int e) {
            return (int) places.stream().filter(p -> p.has.containsKey(e)).count();
        }

        boolean ahead(int a, int b) {
            return events.get(b).hadAhead.contains(a);
        }

        boolean concurrent(int a, int b) {
            return a != b && !ahead(a, b) && !ahead(b, a);
        }

        /** For each event the longest row that ends with it, of like long ones the first. */
        List<List<Integer>> longestRows() {
            List<List<Integer>> rows = new ArrayList<>();
            for (Event e : events) {
                List<Integer> best = List.of();
                for (int a : e.hadAhead) {
                    List<Integer> row = rows.get(a);
                    if (row.size() > best.size() || row.size() == best.size() && compare(row, best) < 0) {
                        best = row;
                    }
                }
                List<Integer> row = new ArrayList<>(best);
                row.add(e.number);
                rows.add(row);
            }
            return rows;
        }

        Set<Integer> part(int site) {
            Set<Integer> part = new TreeSet<>(Set.of(site));
            boolean grew = true;
            while (grew) {
                grew = false;
                for (int a : new ArrayList<>(part)) {
                    for (int b = 0; b < n; b++) {
                        grew |= !isCut(a, b) && part.add(b);
                    }
                }
            }
            return part;
        }

        boolean alike() {
            return places.stream().allMatch(p -> p.has.keySet().equals(places.get(0).has.keySet()));
        }
    }

    private State s = new State(3, 0);
    private final State[] images = new State[2];
    private final List<int[]> trace = new ArrayList<>();

    private static int compare(List<Integer> a, List<Integer> b) {
        for (int i = 0; i < a.size() && i < b.size(); i++) {
            if (!a.get(i).equals(b.get(i))) {
                return a.get(i) - b.get(i);
            }
        }
        return a.size() - b.size();
    }

    private static int[][] copyOf(int[][] table) {
        int[][] c = new int[table.length][];
        for (int i = 0; i < c.length; i++) {
            c[i] = table[i].clone();
        }
        return c;
    }

    private static int[] greater(int[] a, int[] b) {
        int[] c = a.clone();
        for (int i = 0; i < c.length; i++) {
            c[i] = Math.max(a[i], b[i]);
        }
        return c;
    }

    private void index(boolean good) {
        if (!good) {
            throw new IndexOutOfBoundsException();
        }
    }

    private void element(boolean good) {
        if (!good) {
            throw new NoSuchElementException();
        }
    }

    private void state(boolean good) {
        if (!good) {
            throw new IllegalStateException();
        }
    }

    private void argument(boolean good) {
        if (!good) {
            throw new IllegalArgumentException();
        }
    }

    private boolean isSite(int site) {
        return 0 <= site && site < s.n;
    }

    private boolean isEvent(int e) {
        return 0 <= e && e < s.events.size();
    }

    private void couple(int a, int b) {
        index(isSite(a) && isSite(b) && a != b);
    }

    private void what(int what, int most) {
        argument(0 <= what && what <= most);
    }

    private int told(int kind, int site, int answer) {
        trace.add(0, new int[] {s.steps, kind, site, answer});
        if (trace.size() > 32) {
            trace.remove(32);
        }
        return answer;
    }

    public int sites(int n) {
        argument(2 <= n && n <= 5);
        s = new State(n, s.mode);
        trace.clear();
        return n;
    }

    public int mode(int mode) {
        argument(0 <= mode && mode <= 2);
        int was = s.mode;
        s.mode = mode;
        return was;
    }

    public int add(int site, int name) {
        index(isSite(site));
        state(s.events.size() < 120);
        argument(0 <= name && name <= 99);
        return told(0, site, s.happen(site, false, 0, name));
    }

    public int take(int site, int mark) {
        index(isSite(site));
        element(s.places.get(site).view.contains(mark));
        state(s.events.size() < 120);
        return told(1, site, s.happen(site, true, mark, s.events.get(mark).name));
    }

    public int write(int from, int to) {
        couple(from, to);
        state(s.row(from, to).size() < 12 && !s.isCut(from, to));
        s.steps++;
        Post l = s.compose(from, to);
        s.row(from, to).add(l);
        s.written++;
        s.carried += l.events.size();
        return told(2, from, l.events.size());
    }

    private List<Post> rowWith(int from, int to, int k) {
        couple(from, to);
        element(0 <= k && k < s.row(from, to).size());
        return s.row(from, to);
    }

    public int come(int from, int to, int k) {
        List<Post> row = rowWith(from, to, k);
        state(!s.isCut(from, to));
        s.steps++;
        Post l = row.remove(k);
        int fresh = s.receive(l, from, to);
        s.stale += l.events.size() - fresh;
        return told(3, from, fresh);
    }

    public int lose(int from, int to, int k) {
        List<Post> row = rowWith(from, to, k);
        s.steps++;
        row.remove(k);
        return told(4, from, row.size());
    }

    public int twice(int from, int to, int k) {
        List<Post> row = rowWith(from, to, k);
        state(row.size() < 12);
        s.steps++;
        row.add(row.get(k));
        return told(5, from, row.size());
    }

    public int waiting(int from, int to) {
        couple(from, to);
        return s.row(from, to).size();
    }

    public int letter(int from, int to, int k, int what) {
        Post l = rowWith(from, to, k).get(k);
        what(what, 2);
        int had = (int) l.events.stream().filter(e -> s.places.get(to).has.containsKey(e)).count();
        return new int[] {l.events.size(), l.mode, had}[what];
    }

    public int inLetter(int from, int to, int k, int i) {
        Post l = rowWith(from, to, k).get(k);
        element(0 <= i && i < l.events.size());
        return l.events.get(i);
    }

    public int save(int site) {
        index(isSite(site));
        s.steps++;
        s.saved.set(site, s.places.get(site).copy());
        return told(6, site, s.places.get(site).has.size());
    }

    public int fall(int site) {
        index(isSite(site));
        s.steps++;
        return told(7, site, s.fall(site));
    }

    public int join(int site, int by) {
        couple(site, by);
        s.steps++;
        return told(8, site, s.join(site, by));
    }

    private long x;

    private int draw(int m) {
        x = (1103515245L * x + 12345L) % (1L << 31);
        return (int) ((x / 64) % m);
    }

    public int chance(int seed, int n) {
        argument(seed >= 0 && 0 <= n && n <= 60);
        x = seed;
        int events = s.events.size();
        for (int i = 0; i < n; i++) {
            int kind = draw(8);
            int site = draw(s.n);
            try {
                if (kind < 2) {
                    add(site, draw(100));
                } else if (kind == 2) {
                    List<Integer> view = new ArrayList<>(s.places.get(site).view);
                    if (!view.isEmpty()) {
                        take(site, view.get(draw(view.size())));
                    }
                } else {
                    int other = draw(s.n);
                    other = other == site ? (site + 1) % s.n : other;
                    if (kind < 6) {
                        write(site, other);
                    } else if (!s.row(site, other).isEmpty()) {
                        come(site, other, draw(s.row(site, other).size()));
                    }
                }
            } catch (IllegalStateException e) {
                continue; // what can't be does nothing
            }
        }
        return s.events.size() - events;
    }

    public int keep(int k) {
        argument(k == 0 || k == 1);
        images[k] = s.copy();
        return s.events.size();
    }

    public int back(int k) {
        argument(k == 0 || k == 1);
        element(images[k] != null);
        s = images[k].copy();
        trace.clear();
        return s.events.size();
    }

    public boolean cut(int site, int other, boolean is) {
        couple(site, other);
        int key = Math.min(site, other) * 10 + Math.max(site, other);
        boolean another = is ? s.cut.add(key) : s.cut.remove(key);
        if (another) {
            s.steps++;
            told(9, site, 1);
        }
        return another;
    }

    public int view(int site, int k, int what) {
        index(isSite(site));
        List<Integer> view = new ArrayList<>(s.places.get(site).view);
        element(0 <= k && k < view.size());
        what(what, 1);
        return what == 0 ? view.get(k) : s.events.get(view.get(k)).name;
    }

    public int named(int site, int name, int what) {
        index(isSite(site));
        argument(0 <= name && name <= 99);
        what(what, 2);
        TreeSet<Integer> marks = new TreeSet<>(s.places.get(site).view);
        marks.removeIf(m -> s.events.get(m).name != name);
        if (what == 0) {
            return marks.size();
        }
        return marks.isEmpty() ? NONE : what == 1 ? marks.first() : marks.last();
    }

    public int log(int site, int k) {
        index(isSite(site));
        element(0 <= k && k < s.places.get(site).log.size());
        return s.places.get(site).log.get(k);
    }

    public int table(int site, int row, int at) {
        index(isSite(site) && isSite(row) && isSite(at));
        return s.places.get(site).table[row][at];
    }

    public boolean knows(int site, int other, int event) {
        index(isSite(site) && isSite(other) && isEvent(event));
        return s.places.get(site).known(s.events.get(event), other);
    }

    public boolean has(int site, int event) {
        index(isSite(site) && isEvent(event));
        return s.places.get(site).has.containsKey(event);
    }

    public int site(int site, int what) {
        index(isSite(site));
        what(what, 7);
        Place p = s.places.get(site);
        Set<Integer> all = new TreeSet<>(p.has.keySet());
        all.removeIf(e -> s.holders(e) < s.n);
        int[] answers = {s.clock[site], p.view.size(), p.log.size(), p.has.size(), s.overstated(site), s.lost(site),
            all.size(), (int) p.log.stream().filter(all::contains).count()};
        return answers[what];
    }

    private List<Integer> onlyThere(int site, int other) {
        List<Integer> marks = new ArrayList<>(s.places.get(site).view);
        marks.removeAll(s.places.get(other).view);
        return marks;
    }

    public int unlike(int site, int other) {
        couple(site, other);
        return onlyThere(site, other).size();
    }

    public int would(int from, int to, int what) {
        couple(from, to);
        what(what, 2);
        List<Integer> carried = s.compose(from, to).events;
        Set<Integer> theirs = s.places.get(to).has.keySet();
        if (what == 2) {
            Set<Integer> mine = new TreeSet<>(s.places.get(from).has.keySet());
            mine.removeAll(theirs);
            mine.removeAll(carried);
            return mine.size();
        }
        return (int) carried.stream().filter(e -> what == 0 || theirs.contains(e)).count();
    }

    public int event(int event, int what) {
        index(isEvent(event));
        what(what, 8);
        Event e = s.events.get(event);
        int logs = (int) s.places.stream().filter(p -> p.log.contains(event)).count();
        int concurrent = (int) s.events.stream().filter(o -> s.concurrent(event, o.number)).count();
        int[] answers = {e.site, e.time, e.out ? 1 : 0, e.mark, e.name, s.holders(event), logs,
            s.longestRows().get(event).size(), concurrent};
        return answers[what];
    }

    public boolean ahead(int event, int other) {
        index(isEvent(event) && isEvent(other));
        return s.ahead(event, other);
    }

    public int wide(int what) {
        what(what, 2);
        int couples = 0;
        for (int a = 0; a < s.events.size(); a++) {
            for (int b = a + 1; b < s.events.size(); b++) {
                couples += s.concurrent(a, b) ? 1 : 0;
            }
        }
        int height = 0;
        int first = NONE;
        for (List<Integer> row : s.longestRows()) {
            if (row.size() > height) {
                height = row.size();
                first = row.get(height - 1);
            }
        }
        return new int[] {couples, height, first}[what];
    }

    public int came(int site, int event, int what) {
        index(isSite(site) && isEvent(event));
        what(what, 1);
        int[] came = s.places.get(site).has.get(event);
        return came == null ? NONE : came[what];
    }

    public int way(int site, int event, int k) {
        index(isSite(site) && isEvent(event));
        if (!s.places.get(site).has.containsKey(event)) {
            return NONE;
        }
        List<Integer> way = new ArrayList<>();
        int at = site;
        while (true) {
            way.add(at);
            int[] came = s.places.get(at).has.get(event);
            if (came == null || came[1] == at || way.size() == s.n) {
                break;
            }
            at = came[1];
        }
        return k == NONE ? way.size() : k < 0 || k >= way.size() ? NONE : way.get(k);
    }

    public int slowest(int what) {
        what(what, 1);
        int most = NONE;
        int first = NONE;
        for (Event e : s.events) {
            if (s.holders(e.number) == s.n) {
                int last = s.places.stream().mapToInt(p -> p.has.get(e.number)[0]).max().getAsInt();
                if (last - e.step > most) {
                    most = last - e.step;
                    first = e.number;
                }
            }
        }
        return what == 0 ? most : first;
    }

    public int chain(int event, int k) {
        index(isEvent(event));
        List<Integer> row = s.longestRows().get(event);
        return k < 0 || k >= row.size() ? NONE : row.get(k);
    }

    public int between(int event, int other) {
        index(isEvent(event) && isEvent(other));
        return (int) s.events.stream().filter(m -> s.ahead(event, m.number) && s.ahead(m.number, other)).count();
    }

    public int front(int site, int k) {
        index(isSite(site));
        Set<Integer> has = s.places.get(site).has.keySet();
        List<Integer> front = new ArrayList<>(has);
        front.removeIf(e -> has.stream().anyMatch(o -> s.ahead(e, o)));
        return k == NONE ? front.size() : k < 0 || k >= front.size() ? NONE : front.get(k);
    }

    public int only(int site, int other, int k) {
        couple(site, other);
        List<Integer> marks = onlyThere(site, other);
        return k < 0 || k >= marks.size() ? NONE : marks.get(k);
    }

    public int sure(int site, int m) {
        index(isSite(site));
        argument(0 <= m && m <= s.n);
        Place p = s.places.get(site);
        return (int) p.has.keySet().stream().filter(e -> s.knownTo(p, s.events.get(e)) >= m).count();
    }

    public int part(int site) {
        if (site == NONE) {
            Set<Set<Integer>> parts = new HashSet<>();
            for (int i = 0; i < s.n; i++) {
                parts.add(s.part(i));
            }
            return parts.size();
        }
        index(isSite(site));
        return s.part(site).stream().mapToInt(i -> 1 << i).sum();
    }

    public int trace(int k, int what) {
        element(0 <= k && k < trace.size());
        what(what, 3);
        return trace.get(k)[what];
    }

    public int gossip(int what) {
        what(what, 3);
        State paper = s.copy();
        int alike = NONE;
        int empty = NONE;
        int carried = 0;
        int stale = 0;
        for (int round = 0; round <= 12; round++) {
            alike = alike == NONE && paper.alike() ? round : alike;
            empty = empty == NONE && paper.places.stream().allMatch(p -> p.log.isEmpty()) ? round : empty;
            for (int from = 0; from < s.n && round < 12; from++) {
                int to = (from + 1) % s.n;
                if (!s.isCut(from, to)) {
                    Post l = paper.compose(from, to);
                    carried += l.events.size();
                    stale += l.events.size() - paper.receive(l, from, to);
                }
            }
        }
        return new int[] {alike, empty, carried, stale}[what];
    }

    private static int reckon(State then, int site, int what) {
        int[] answers = {then.places.get(site).has.size(), then.lost(site), then.overstated(site),
            then.overstatedAll()};
        return answers[what];
    }

    public int falling(int site, int what) {
        index(isSite(site));
        what(what, 3);
        State then = s.copy();
        then.fall(site);
        return reckon(then, site, what);
    }

    public int joining(int site, int by, int what) {
        couple(site, by);
        what(what, 3);
        State then = s.copy();
        then.join(site, by);
        return reckon(then, site, what);
    }

    public int best(int site) {
        index(isSite(site));
        List<Integer> others = new ArrayList<>();
        for (int i = 0; i < s.n; i++) {
            if (i != site) {
                others.add(i);
            }
        }
        // A stable sort: of like ones the first stays first.
        others.sort(Comparator.<Integer>comparingInt(by -> joining(site, by, 1))
            .thenComparingInt(by -> -joining(site, by, 0)));
        return others.get(0);
    }

    /** Breadth first over what the sites have; rows are found in their order, so the first that fits is due. */
    private List<Integer> fewestRow() {
        if (s.n > 4) {
            return null;
        }
        List<List<BitSet>> states = new ArrayList<>();
        List<List<Integer>> rows = new ArrayList<>();
        Set<List<BitSet>> seen = new HashSet<>();
        List<BitSet> start = new ArrayList<>();
        s.places.forEach(p -> start.add(bitsOf(p.has.keySet())));
        states.add(start);
        rows.add(List.of());
        seen.add(start);
        for (int i = 0; i < states.size(); i++) {
            List<BitSet> now = states.get(i);
            if (new HashSet<>(now).size() == 1) {
                return rows.get(i);
            }
            for (int a = 0; a < s.n; a++) {
                for (int b = 0; b < s.n; b++) {
                    if (a != b && !s.isCut(a, b)) {
                        List<BitSet> then = new ArrayList<>(now);
                        then.set(b, (BitSet) now.get(b).clone());
                        then.get(b).or(now.get(a));
                        if (seen.add(then)) {
                            List<Integer> row = new ArrayList<>(rows.get(i));
                            row.add(10 * a + b);
                            states.add(then);
                            rows.add(row);
                        }
                    }
                }
            }
        }
        return null;
    }

    private static BitSet bitsOf(Set<Integer> events) {
        BitSet bits = new BitSet();
        events.forEach(bits::set);
        return bits;
    }

    public int fewest(int k) {
        List<Integer> row = fewestRow();
        if (row == null) {
            return NONE;
        }
        return k == NONE ? row.size() : k < 0 || k >= row.size() ? NONE : row.get(k);
    }

    public int count(int what) {
        if (what < 0 || what > 13) {
            return NONE;
        }
        int first = NONE;
        for (int i = 555; i >= 0; i--) {
            int site = i / 100;
            int row = i / 10 % 10;
            int at = i % 10;
            if (site < s.n && row < s.n && at < s.n && s.overstated(site, row, at)) {
                first = i;
            }
        }
        int lost = 0;
        for (int i = 0; i < s.n; i++) {
            lost += s.lost(i);
        }
        boolean alike = s.places.stream().allMatch(p -> p.view.equals(s.places.get(0).view));
        int[] answers = {s.n, s.mode, s.events.size(), s.posts.values().stream().mapToInt(List::size).sum(), s.written,
            s.carried, s.stale, s.overstatedAll(), first, lost,
            (int) s.events.stream().filter(e -> s.holders(e.number) == s.n).count(), alike ? 1 : 0, s.steps,
            s.cut.size()};
        return answers[what];
    }

    int sitesNow() {
        return s.n;
    }

    int eventsNow() {
        return s.events.size();
    }
}
