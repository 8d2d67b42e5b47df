import java.util.Arrays;
import java.util.List;
import java.util.Set;

/** One call as a thing that can be kept, made on several objects, and printed. */
record Call(String method, List<Integer> numbers) {
    private static final Set<String> QUESTIONS = Set.of("elements", "rules", "exists", "contents", "matches", "open",
        "firstRule", "firstTag", "fitting");

    static Call of(String method, Integer... numbers) {
        return new Call(method, Arrays.asList(numbers));
    }

    /** Whether a call with this answer leaves the object as it was: a question, or refused, or a run of no firing. */
    boolean changesNothing(int answer) {
        return QUESTIONS.contains(method) || answer < 0 || method.equals("run") && answer == 0;
    }

    int on(RuleMatcher x) {
        return switch (method) {
            case "make" -> x.make(number(0), number(1));
            case "remove" -> x.remove(number(0));
            case "condition" -> x.condition(number(0), number(1));
            case "rule" -> x.rule(number(0));
            case "clearRules" -> x.clearRules();
            case "elements" -> x.elements();
            case "rules" -> x.rules();
            case "exists" -> x.exists(number(0));
            case "contents" -> x.contents(number(0));
            case "matches" -> x.matches(number(0));
            case "open" -> x.open();
            case "firstRule" -> x.firstRule();
            case "firstTag" -> x.firstTag(number(0));
            case "fire" -> x.fire();
            case "run" -> x.run(number(0));
            case "fitting" -> x.fitting(number(0));
            default -> throw new IllegalStateException("no method " + method);
        };
    }

    int on(Model m) {
        return switch (method) {
            case "make" -> m.make(number(0), number(1));
            case "remove" -> m.remove(number(0));
            case "condition" -> m.condition(number(0), number(1));
            case "rule" -> m.rule(number(0));
            case "clearRules" -> m.clearRules();
            case "elements" -> m.elements();
            case "rules" -> m.rules();
            case "exists" -> m.exists(number(0));
            case "contents" -> m.contents(number(0));
            case "matches" -> m.matches(number(0));
            case "open" -> m.open();
            case "firstRule" -> m.firstRule();
            case "firstTag" -> m.firstTag(number(0));
            case "fire" -> m.fire();
            case "run" -> m.run(number(0));
            case "fitting" -> m.fitting(number(0));
            default -> throw new IllegalStateException("no method " + method);
        };
    }

    private int number(int i) {
        return numbers.get(i);
    }

    @Override
    public String toString() {
        return method + numbers.toString().replace('[', '(').replace(']', ')');
    }
}
