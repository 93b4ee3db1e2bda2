import java.util.ArrayList;
import java.util.List;

/**
 * A run of calls on one object, which is made anew, with all that was done to it, before it would be used for more
 * calls than the document promises anything for. keeps() looks whether a call changes nothing: of two objects made
 * alike one gets the call, and from then on both must answer alike whatever is asked, undone, laid back or read.
 */
final class Run {
    static final int MOST_CALLS = 512;

    private final Due due;
    private final List<Call> done = new ArrayList<>();
    private FellInField x = new FellInField();
    private int used;

    Run(Due due, String... calls) {
        this.due = due;
        does(calls);
    }

    /** As that run stands, to go another way from there. */
    Run(Run other) {
        due = other.due;
        for (Call call : other.done) {
            make(call);
        }
    }

    /** Calls whose answers are not looked at; a text may hold several, parted by "; ". */
    Run does(String... calls) {
        for (String text : calls) {
            for (String call : text.split("; ")) {
                make(Call.of(call));
            }
        }
        return this;
    }

    Run is(String call, long want) {
        due.is(call, make(Call.of(call)), want);
        return this;
    }

    /** Each of the calls, parted by "; ", with the answer due. */
    Run are(String calls, long... wants) {
        String[] each = calls.split("; ");
        due.is("answers told for " + calls, wants.length, each.length);
        for (int i = 0; i < each.length && i < wants.length; i++) {
            is(each[i], wants[i]);
        }
        return this;
    }

    /** The call with each of the values for its ? in turn, one behind the other. */
    Run each(String call, long want, long... values) {
        for (long v : values) {
            is(call.replace("?", Long.toString(v)), want);
        }
        return this;
    }

    /** The call answers so, and changes nothing. */
    Run keeps(String call, long want) {
        Call refused = Call.of(call);
        for (List<Call> group : Probes.GROUPS) {
            if (done.size() + 1 + group.size() > MOST_CALLS) {
                throw new IllegalStateException("too many calls ahead of " + call);
            }
            FellInField with = again();
            FellInField without = again();
            due.is(call, refused.on(with), want);
            for (Call probe : group) {
                due.is("behind " + call + ", " + probe.text, probe.on(with), probe.on(without));
            }
        }
        return this;
    }

    /** As keeps(), for each of the values in place of the call's ?. */
    Run keepsEach(String call, long want, long... values) {
        for (long v : values) {
            keeps(call.replace("?", Long.toString(v)), want);
        }
        return this;
    }

    Run tape(String text) {
        for (int i = 0; i < text.length(); i++) {
            make(Call.of("feed", (int) text.charAt(i)));
        }
        return this;
    }

    Run law(String text) {
        tape(text);
        return is("law()", 1);
    }

    Run row(int shelf, int sort, long... elements) {
        make(Call.of("row", shelf, sort, elements.length));
        for (int i = 0; i < elements.length; i++) {
            if (elements[i] != 0) {
                make(Call.of("put", shelf, i, elements[i]));
            }
        }
        return this;
    }

    private FellInField again() {
        FellInField other = new FellInField();
        for (Call call : done) {
            call.on(other);
        }
        return other;
    }

    long make(Call call) {
        if (used == MOST_CALLS) {
            x = again();
            used = done.size();
        }
        if (used == MOST_CALLS) {
            throw new IllegalStateException("too many calls ahead of " + call.text);
        }
        used++;
        if (call.does()) {
            done.add(call);
        }
        return call.on(x);
    }
}
