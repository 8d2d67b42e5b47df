import java.util.ArrayList;
import java.util.List;

/**
 * An object under test with the calls made on it so far. The methods are those of the document, with one number more
 * at the end: the answer that is due. After every question and every refused call the run asks that nothing has
 * changed: it brings two new objects to the same place, one with that call and one without, and probes both.
 */
final class Run {
    private static final int MOST_CALLS = 512;

    private final RuleMatcher x = new RuleMatcher();
    private final List<Call> calls = new ArrayList<>();

    void make(int type, int fields, int due) {
        due(due, "make", type, fields);
    }

    void remove(int tag, int due) {
        due(due, "remove", tag);
    }

    void condition(int pattern, int negative, int due) {
        due(due, "condition", pattern, negative);
    }

    void rule(int action, int due) {
        due(due, "rule", action);
    }

    void clearRules(int due) {
        due(due, "clearRules");
    }

    void elements(int due) {
        due(due, "elements");
    }

    void rules(int due) {
        due(due, "rules");
    }

    void exists(int tag, int due) {
        due(due, "exists", tag);
    }

    void contents(int tag, int due) {
        due(due, "contents", tag);
    }

    void matches(int rule, int due) {
        due(due, "matches", rule);
    }

    void open(int due) {
        due(due, "open");
    }

    void firstRule(int due) {
        due(due, "firstRule");
    }

    void firstTag(int k, int due) {
        due(due, "firstTag", k);
    }

    void fire(int due) {
        due(due, "fire");
    }

    void run(int count, int due) {
        due(due, "run", count);
    }

    void fitting(int pattern, int due) {
        due(due, "fitting", pattern);
    }

    /** A run on an object with so many elements of a type, tags 1, 2, .., all fields 0. */
    static Run withElements(int type, int count) {
        Run run = new Run();
        for (int tag = 1; tag <= count; tag++) {
            run.make(type, 0, tag);
        }
        return run;
    }

    /** A whole rule; the i-th pattern is a negative condition if bit i of negatives is set. */
    void addRule(int due, int action, int negatives, int... patterns) {
        for (int i = 0; i < patterns.length; i++) {
            condition(patterns[i], negatives >> i & 1, i + 1);
        }
        rule(action, due);
    }

    /** The open match that comes first, and that it fires. */
    void firesNext(int rule, int... tags) {
        firstRule(rule);
        for (int k = 0; k < tags.length; k++) {
            firstTag(k, tags[k]);
        }
        firstTag(tags.length, -2);
        fire(rule);
    }

    private void due(int due, String method, Integer... numbers) {
        Call call = Call.of(method, numbers);
        String place = call + ", call " + (calls.size() + 1);
        Due.due(place, call.on(x), due);
        if (call.changesNothing(due)) {
            String difference = differenceBy(call);
            Due.due(place + " changed something: " + difference, difference.length(), 0);
        }
        calls.add(call);
        if (calls.size() + Probe.CALLS >= MOST_CALLS) {
            throw new IllegalStateException("too long a run: an object is good for " + MOST_CALLS + " calls");
        }
    }

    private String differenceBy(Call call) {
        RuleMatcher without = again();
        RuleMatcher with = again();
        call.on(with);
        return Probe.difference(Probe.of(c -> c.on(without)), Probe.of(c -> c.on(with)));
    }

    private RuleMatcher again() {
        RuleMatcher other = new RuleMatcher();
        for (Call call : calls) {
            call.on(other);
        }
        return other;
    }
}
