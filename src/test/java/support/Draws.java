import java.math.BigInteger;
import java.util.List;

/** What chance() does, told as calls by hand: the document's draws, reckoned with whole numbers of any size. */
final class Draws {
    private static final BigInteger FACTOR = BigInteger.valueOf(1103515245);
    private static final BigInteger SUMMAND = BigInteger.valueOf(12345);
    private static final BigInteger MODULUS = BigInteger.TWO.pow(31);

    private static final int MOST_SEEDS = 1_000_000;

    private final List<String> calls;
    private final GossipTables object = new GossipTables();
    private BigInteger x;

    /** The calls so far; those that the draws tell are put behind them. */
    Draws(int seed, List<String> calls) {
        x = BigInteger.valueOf(seed);
        this.calls = calls;
        calls.forEach(call -> Calls.answer(object, call));
    }

    private Draws(int seed) {
        this(seed, List.of());
    }

    /** The first seed with these draws: of 8, of so many sites, then of and what, of and what, ..; of -1: whatever. */
    static int seedOf(int sites, int kind, int first, int... more) {
        for (int seed = 0; seed < MOST_SEEDS; seed++) {
            Draws draws = new Draws(seed);
            boolean fits = draws.of(8) == kind && draws.of(sites) == first;
            for (int i = 0; i + 1 < more.length && fits; i += 2) {
                fits = draws.of(more[i]) == more[i + 1];
            }
            if (fits) {
                return seed;
            }
        }
        throw new IllegalStateException("no such seed");
    }

    /** The k-th seed by which, of three sites without elements, first an OUT can't be, then an IN comes. */
    static int seedOfNothingThenIn(int k) {
        int left = k;
        for (int seed = 0; seed < MOST_SEEDS; seed++) {
            Draws draws = new Draws(seed);
            boolean fits = draws.of(8) == 2 && draws.of(3) >= 0 && draws.of(8) <= 1;
            if (fits && left == 0) {
                return seed;
            }
            left -= fits ? 1 : 0;
        }
        throw new IllegalStateException("no such seed");
    }

    int of(int m) {
        x = FACTOR.multiply(x).add(SUMMAND).mod(MODULUS);
        return x.divide(BigInteger.valueOf(64)).mod(BigInteger.valueOf(m)).intValue();
    }

    /** How many events came. */
    int doTimes(int n) {
        int before = object.count(2);
        for (int i = 0; i < n; i++) {
            doOnce();
        }
        return object.count(2) - before;
    }

    private void doOnce() {
        int sites = object.count(0);
        int kind = of(8);
        int first = of(sites);
        if (kind <= 1) {
            tryCall("add " + first + " " + of(100));
        } else if (kind == 2) {
            int elements = object.site(first, 1);
            if (elements > 0) {
                tryCall("take " + first + " " + object.view(first, of(elements), 0));
            }
        } else {
            int drawn = of(sites);
            int other = drawn == first ? (first + 1) % sites : drawn;
            if (kind <= 5) {
                tryCall("write " + first + " " + other);
            } else if (object.waiting(first, other) > 0) {
                tryCall("come " + first + " " + other + " " + of(object.waiting(first, other)));
            }
        }
    }

    /** What can't be does nothing. */
    private void tryCall(String call) {
        if (Calls.answer(object, call).matches("\\d+")) {
            calls.add(call);
        }
    }
}
