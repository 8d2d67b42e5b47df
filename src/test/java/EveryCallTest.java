import java.util.ArrayList;
import java.util.List;

/**
 * Every method with arguments on both sides of every bound, in every kind of state: the answer and all that later calls
 * show are those of the model, and a question or a refused call leaves all as it was.
 */
public final class EveryCallTest {
    private static final int MIN = Integer.MIN_VALUE;
    private static final int MAX = Integer.MAX_VALUE;
    private static final int ALL = Due.all(0);
    private static final int ALL_1 = Due.all(1);
    private static final int LINK = Due.pattern(0, Due.X, Due.Y, Due.ANY);
    private static final int NEXT = Due.pattern(1, Due.Y, Due.ANY, Due.X);

    public static void main(String[] args) {
        List<Call> catalogue = catalogue();
        nothing(catalogue);
        elementsAlone(catalogue);
        drafts(catalogue);
        fiveRules(catalogue);
        someFired(catalogue);
        allFired(catalogue);
        heldBack(catalogue);
        fortyFired(catalogue);
        joined(catalogue);
        Due.end();
    }

    private static List<Call> catalogue() {
        List<Call> calls = new ArrayList<>();
        int[] types = {MIN, -1, 0, 3, 4, MAX};
        int[] fields = {MIN, -1, 0, 4095, 4096, MAX};
        int[] patterns = {MIN, -1, 0, ALL, 31999, 32000, MAX};
        int[] negatives = {MIN, -1, 0, 1, MAX};
        both(calls, "make", types, fields);
        both(calls, "condition", patterns, negatives);
        each(calls, "remove", MIN, -1, 0, 1, 2, 3, 4, 6, 7, 10, 11, 12, 13, MAX);
        each(calls, "rule", MIN, -1, 0, 1, 2, 3, 4, 32003, 32004, MAX);
        each(calls, "exists", MIN, -1, 0, 1, 2, 12, 13, MAX);
        each(calls, "contents", MIN, -1, 0, 1, 2, 12, 13, MAX);
        each(calls, "matches", MIN, -1, 0, 1, 4, 5, MAX);
        each(calls, "firstTag", MIN, -1, 0, 1, 2, 3, MAX);
        each(calls, "run", MIN, -1, 0, 1, 2, 29, 30, 31, MAX);
        each(calls, "fitting", MIN, -1, 0, ALL, LINK, 31999, 32000, MAX);
        String[] plain = {"clearRules", "elements", "rules", "open", "firstRule", "fire"};
        for (String method : plain) {
            calls.add(Call.of(method));
        }
        return calls;
    }

    private static void both(List<Call> calls, String method, int[] firsts, int[] seconds) {
        for (int first : firsts) {
            for (int second : seconds) {
                calls.add(Call.of(method, first, second));
            }
        }
    }

    private static void each(List<Call> calls, String method, int... numbers) {
        for (int number : numbers) {
            calls.add(Call.of(method, number));
        }
    }

    private static void nothing(List<Call> catalogue) {
        tryAll("a new object", new ArrayList<>(), catalogue);
    }

    private static void elementsAlone(List<Call> catalogue) {
        tryAll("one element", elements(0, 1), catalogue);
        tryAll("eleven elements", elements(0, 11), catalogue);
        tryAll("twelve elements", elements(3, 12), catalogue);
        List<Call> gone = elements(0, 12);
        each(gone, "remove", 12, 1, 6);
        tryAll("three of twelve gone", gone, catalogue);
    }

    private static void drafts(List<Call> catalogue) {
        for (int length = 1; length <= 3; length++) {
            List<Call> state = elements(0, 2);
            draft(state, 0, length);
            tryAll("a draft of " + length, state, catalogue);
        }
        List<Call> state = elements(0, 2);
        draft(state, 2, 2);
        tryAll("a draft with a negative condition", state, catalogue);
        List<Call> full = elements(0, 2);
        draft(full, 4, 3);
        tryAll("a full draft with a negative condition", full, catalogue);
    }

    private static void fiveRules(List<Call> catalogue) {
        List<Call> state = elements(0, 2);
        for (int rule = 0; rule < 4; rule++) {
            rule(state, rule, 0, ALL, ALL, ALL);
        }
        tryAll("four rules", new ArrayList<>(state), catalogue);
        rule(state, Due.making(1, Due.X, 0, 0), 0, LINK);
        tryAll("five rules", new ArrayList<>(state), catalogue);
        draft(state, 0, 2);
        tryAll("five rules and a draft", state, catalogue);
    }

    private static void someFired(List<Call> catalogue) {
        List<Call> state = elements(0, 3);
        rule(state, 0, 0, ALL, ALL);
        rule(state, 1, 2, ALL, ALL_1);
        each(state, "run", 4);
        tryAll("some fired", state, catalogue);
    }

    private static void allFired(List<Call> catalogue) {
        List<Call> state = elements(0, 12);
        rule(state, Due.making(1, 0, 0, 0), 0, ALL);
        each(state, "run", 30);
        tryAll("all fired", state, catalogue);
    }

    private static void heldBack(List<Call> catalogue) {
        List<Call> state = elements(0, 3);
        rule(state, 0, 2, ALL, ALL_1);
        each(state, "run", 2);
        state.add(Call.of("make", 1, 0));
        tryAll("fired ones held back", state, catalogue);
    }

    private static void fortyFired(List<Call> catalogue) {
        List<Call> state = elements(0, 7);
        rule(state, 0, 0, ALL, ALL);
        each(state, "run", 30, 9);
        tryAll("thirty-nine fired", new ArrayList<>(state), catalogue);
        state.add(Call.of("fire"));
        tryAll("forty fired", new ArrayList<>(state), catalogue);
        state.add(Call.of("condition", ALL, 0));
        tryAll("forty fired, and a draft", state, catalogue);
        List<Call> none = elements(0, 10);
        for (int rule = 0; rule < 4; rule++) {
            rule(none, 0, 0, ALL);
        }
        each(none, "run", 30, 30);
        tryAll("forty fired, none open", none, catalogue);
    }

    private static void joined(List<Call> catalogue) {
        List<Call> state = new ArrayList<>();
        for (int i = 0; i < 6; i++) {
            state.add(Call.of("make", i % 2, Due.fields(i % 3, i % 2, i / 2)));
        }
        rule(state, Due.making(1, Due.Y, Due.X, Due.Z), 0, LINK, NEXT);
        rule(state, 2, 2, LINK, NEXT, ALL_1);
        each(state, "run", 2);
        tryAll("rules with variables", state, catalogue);
    }

    private static List<Call> elements(int type, int count) {
        List<Call> calls = new ArrayList<>();
        for (int i = 0; i < count; i++) {
            calls.add(Call.of("make", type, 0));
        }
        return calls;
    }

    private static void draft(List<Call> calls, int negatives, int length) {
        for (int i = 0; i < length; i++) {
            boolean negative = (negatives >> i & 1) == 1;
            calls.add(Call.of("condition", negative ? ALL_1 : ALL, negative ? 1 : 0));
        }
    }

    private static void rule(List<Call> calls, int action, int negatives, int... patterns) {
        for (int i = 0; i < patterns.length; i++) {
            calls.add(Call.of("condition", patterns[i], negatives >> i & 1));
        }
        calls.add(Call.of("rule", action));
    }

    private static void tryAll(String name, List<Call> state, List<Call> catalogue) {
        Due.part(name);
        List<String> before = probe(state, null);
        for (Call call : catalogue) {
            int due = call.on(modelIn(state));
            Due.due(call.toString(), call.on(objectIn(state)), due);
            List<String> after = probe(state, call);
            same(call + ", then", after, probeOfModel(state, call));
            if (call.changesNothing(due)) {
                same(call + " changed something:", after, before);
            }
        }
    }

    private static void same(String what, List<String> got, List<String> due) {
        String difference = Probe.difference(got, due);
        Due.due(what + " " + difference, difference.length(), 0);
    }

    private static List<String> probe(List<Call> state, Call last) {
        RuleMatcher x = objectIn(state);
        if (last != null) {
            last.on(x);
        }
        return Probe.of(call -> call.on(x));
    }

    private static List<String> probeOfModel(List<Call> state, Call last) {
        Model m = modelIn(state);
        last.on(m);
        return Probe.of(call -> call.on(m));
    }

    private static RuleMatcher objectIn(List<Call> state) {
        RuleMatcher x = new RuleMatcher();
        for (Call call : state) {
            call.on(x);
        }
        return x;
    }

    private static Model modelIn(List<Call> state) {
        Model m = new Model();
        for (Call call : state) {
            call.on(m);
        }
        return m;
    }
}
