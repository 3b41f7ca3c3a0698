import java.util.ArrayList;
import java.util.List;

/** The lines of a run, put together. */
final class Lines {
    /** Of three sites. */
    static final String[] NO_SITES = {"-1", "3", "MIN", "MAX"};
    static final String[] NO_COUPLES = {"-1 0", "0 -1", "3 0", "0 3", "1 1", "MIN 0", "0 MIN", "MAX 0", "0 MAX"};

    private final List<String> lines = new ArrayList<>();

    static Lines of(String... lines) {
        return new Lines().and(lines);
    }

    Lines and(String... more) {
        lines.addAll(List.of(more));
        return this;
    }

    /** The call with each of these in the place of #, and what is due. */
    Lines each(String call, String due, String... values) {
        for (String value : values) {
            lines.add(call.replace("#", value) + " = " + due);
        }
        return this;
    }

    String[] all() {
        return lines.toArray(new String[0]);
    }
}
