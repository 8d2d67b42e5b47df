import java.util.ArrayList;
import java.util.List;
import java.util.function.ToIntFunction;

/**
 * Draws out of an object all that later calls can show of it: elements, rules, draft, fired matches and the next tag.
 * It uses the object up, so it is made on objects brought into the state a second time.
 */
final class Probe {
    /** The greatest number of calls that one probe makes. */
    static final int CALLS = 300;
    private static final int TAGS = 32;
    private static final int TURNS = 14;

    private final ToIntFunction<Call> object;
    private final List<String> shown = new ArrayList<>();

    private Probe(ToIntFunction<Call> object) {
        this.object = object;
    }

    /** Every call of the probe with its answer. */
    static List<String> of(ToIntFunction<Call> object) {
        Probe probe = new Probe(object);
        probe.questions();
        probe.draft();
        probe.firing();
        probe.nextTag();
        probe.end();
        if (probe.shown.size() > CALLS) {
            throw new IllegalStateException("a probe of " + probe.shown.size() + " calls");
        }
        return probe.shown;
    }

    /** The first place where two probes differ, or an empty text. */
    static String difference(List<String> one, List<String> other) {
        for (int i = 0; i < one.size(); i++) {
            if (!one.get(i).equals(other.get(i))) {
                return one.get(i) + " / " + other.get(i);
            }
        }
        return "";
    }

    private void questions() {
        ask("elements");
        ask("rules");
        for (int tag = 0; tag <= TAGS; tag++) {
            ask("contents", tag);
        }
        for (int type = 0; type < 4; type++) {
            ask("fitting", Due.all(type));
        }
        matches();
        first();
    }

    private void draft() {
        // Whichever of these is taken first tells how many positive conditions the draft has.
        ask("rule", 3);
        ask("rule", 2);
        ask("condition", Due.all(0), 0);
        ask("condition", Due.all(0), 1);
        ask("rule", 2);
        ask("rule", 0);
        matches();
    }

    private void firing() {
        for (int turn = 0; turn < TURNS; turn++) {
            first();
            ask("fire");
            ask("open");
        }
        ask("run", 30);
        ask("run", 30);
        ask("fire");
        ask("elements");
        matches();
    }

    private void nextTag() {
        ask("make", 0, Due.fields(1, 1, 1));
        for (int tag = 1; tag <= TAGS; tag += 2) {
            ask("remove", tag);
        }
        for (int type = 0; type < 4; type++) {
            ask("make", type, Due.fields(type, type, 15));
        }
        matches();
        for (int turn = 0; turn < TURNS; turn++) {
            first();
            ask("fire");
        }
    }

    private void end() {
        ask("clearRules");
        ask("condition", Due.all(0), 1);
        ask("condition", Due.all(0), 0);
        ask("rule", 0);
        ask("open");
        ask("run", 30);
    }

    private void matches() {
        for (int rule = 0; rule <= 5; rule++) {
            ask("matches", rule);
        }
        ask("open");
    }

    private void first() {
        ask("firstRule");
        for (int k = 0; k < 3; k++) {
            ask("firstTag", k);
        }
    }

    private void ask(String method, Integer... numbers) {
        Call call = Call.of(method, numbers);
        shown.add(call + " = " + object.applyAsInt(call));
    }
}
