import java.util.ArrayList;
import java.util.List;

/**
 * All that an object tells after some calls. An object answers 512 calls, so it is made anew
 * as often as it takes; what can only be seen by changing it (what is saved, the images) is
 * looked at on objects of its own.
 */
final class Told {
    private static final int MOST_CALLS = 512;
    /** Of more events than these not every couple is looked at. */
    private static final int FEW = 12;

    private final List<String> making;
    private final List<String> answers = new ArrayList<>();
    private GossipTables object;
    private int callsLeft;

    private Told(List<String> making) {
        this.making = making;
    }

    /** Each as "call = answer"; with or without the trace. */
    static List<String> after(List<String> making, boolean withTrace) {
        Told told = new Told(making);
        told.callsLeft = 0;
        told.tellAll(withTrace);
        return told.answers;
    }

    private void makeAnew() {
        object = new GossipTables();
        for (String call : making) {
            Calls.answer(object, call);
        }
        callsLeft = MOST_CALLS - making.size();
        if (callsLeft < 40) {
            throw new IllegalStateException("too long a run to be looked at");
        }
    }

    private int ask(String call) {
        if (callsLeft <= 0) {
            makeAnew();
        }
        callsLeft--;
        String answer = Calls.answer(object, call);
        answers.add(call + " = " + answer);
        return answer.matches("-?\\d+") ? Integer.parseInt(answer) : 0;
    }

    private void askEach(String call, int from, int to) {
        for (int i = from; i <= to; i++) {
            ask(call + " " + i);
        }
    }

    private void tellAll(boolean withTrace) {
        int sites = ask("count 0");
        int events = ask("count 2");
        askEach("count", -1, 14);
        for (int site = 0; site < sites; site++) {
            tellSite(site, sites, events);
            for (int other = 0; other < sites; other++) {
                if (site != other) {
                    tellCouple(site, other);
                }
            }
        }
        for (int event = 0; event < events; event++) {
            tellEvent(event, events);
        }
        askEach("wide", 0, 2);
        askEach("slowest", 0, 1);
        askEach("gossip", 0, 3);
        askEach("fewest", -1, 6);
        ask("part -1");
        for (int k = 0; k <= 32 && withTrace; k++) {
            askEach("trace " + k, 0, 3);
        }
        tellWhatIsHidden(sites);
    }

    private void tellSite(int site, int sites, int events) {
        askEach("site " + site, 0, 7);
        int elements = ask("site " + site + " 1");
        for (int k = 0; k < elements; k++) {
            askEach("view " + site + " " + k, 0, 1);
        }
        askEach("log " + site, 0, ask("site " + site + " 2") - 1);
        for (int row = 0; row < sites; row++) {
            askEach("table " + site + " " + row, 0, sites - 1);
            askEach("knows " + site + " " + row, 0, events - 1);
        }
        askEach("has " + site, 0, events - 1);
        askEach("named " + site + " 7", 0, 2);
        askEach("sure " + site, 0, sites);
        askEach("front " + site, -1, 3);
        askEach("falling " + site, 0, 3);
        ask("part " + site);
        ask("best " + site);
        for (int event = 0; event < events; event++) {
            askEach("came " + site + " " + event, 0, 1);
            askEach("way " + site + " " + event, -1, events > FEW ? 0 : sites);
        }
    }

    private void tellCouple(int site, int other) {
        String couple = " " + site + " " + other;
        int letters = ask("waiting" + couple);
        for (int k = 0; k < letters; k++) {
            askEach("letter" + couple + " " + k, 0, 2);
            askEach("inLetter" + couple + " " + k, 0, Math.min(ask("letter" + couple + " " + k + " 0"), FEW) - 1);
        }
        ask("unlike" + couple);
        askEach("only" + couple, 0, 2);
        askEach("would" + couple, 0, 2);
        askEach("joining" + couple, 0, 3);
    }

    private void tellEvent(int event, int events) {
        askEach("event " + event, 0, 8);
        askEach("chain " + event, 0, 3);
        int last = Math.min(events, FEW) - 1;
        askEach("ahead " + event, 0, last);
        askEach("between " + event, 0, last);
    }

    private void tellWhatIsHidden(int sites) {
        for (int k = 0; k <= 1; k++) {
            makeAnew();
            ask("back " + k);
            askEach("count", 0, 13);
        }
        for (int site = 0; site < sites; site++) {
            makeAnew();
            ask("fall " + site);
            askEach("site " + site, 0, 5);
            for (int row = 0; row < sites; row++) {
                askEach("table " + site + " " + row, 0, sites - 1);
            }
        }
        callsLeft = 0;
    }
}
