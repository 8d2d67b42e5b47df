/** Promises 11 to 14: which matches there are, which are open, and which comes first. */
public final class MatchTest {
    private static final int ALL = Due.pattern(0, Due.ANY, Due.ANY, Due.ANY);
    private static final int ALL_1 = Due.pattern(1, Due.ANY, Due.ANY, Due.ANY);
    /** Three elements for three conditions, in the order of matches: a digit is a tag. */
    private static final int[] ROWS = {333, 332, 323, 233, 331, 313, 133, 322, 232, 223, 321, 312, 231, 213, 132, 123,
        311, 131, 113, 222, 221, 212, 122, 211, 121, 112, 111};

    public static void main(String[] args) {
        matchesOfWhichRule();
        matchesJoin();
        matchesNegative();
        matchesNegativeBeforeItsVariable();
        matchesAtMost();
        open();
        openAfterANegativePause();
        openIsAskedWithoutChange();
        firstRuleByTags();
        firstRuleLongerFirst();
        firstRuleLesserNumber();
        firstTag();
        firstTagFallingOrder();
        firstTagFallingOrderAfterRemovals();
        firstTagSkipsNegative();
        Due.end();
    }

    private static void matchesOfWhichRule() {
        Due.part("promise 11");
        RuleMatcher x = Due.withElements(0, 3);
        Due.due("matches(0), no rule", x.matches(0), -1);
        x.condition(ALL, 0);
        Due.due("matches(0), only a draft", x.matches(0), -1);
        x.rule(0);
        Due.due("matches(0)", x.matches(0), 3);
        Due.due("matches(1)", x.matches(1), -1);
        Due.due("matches(-1)", x.matches(-1), -1);
        for (int far : Due.FAR) {
            Due.due("matches(far)", x.matches(far), -1);
        }
        x.run(2);
        Due.due("matches(0), open or not", x.matches(0), 3);
        x.remove(2);
        Due.due("matches(0), one removed", x.matches(0), 2);
        Due.addRule(x, 0, 0, ALL_1);
        Due.due("matches(1), none fits", x.matches(1), 0);
    }

    private static void matchesJoin() {
        Due.part("promise 11, variables");
        RuleMatcher x = new RuleMatcher();
        x.make(0, Due.fields(1, 2, 0));
        x.make(0, Due.fields(2, 3, 0));
        x.make(0, Due.fields(3, 1, 0));
        x.make(0, Due.fields(3, 3, 0));
        Due.addRule(x, 0, 0, Due.pattern(0, Due.X, Due.Y, 0), Due.pattern(0, Due.Y, Due.Z, 0));
        Due.due("chains of two", x.matches(0), 6);
        Due.addRule(x, 0, 0, Due.pattern(0, Due.X, Due.Y, 0), Due.pattern(0, Due.Y, Due.Z, 0),
            Due.pattern(0, Due.Z, Due.X, 0));
        Due.due("rings of three", x.matches(1), 4);
        Due.addRule(x, 0, 0, Due.pattern(0, Due.X, Due.X, 0), Due.pattern(0, Due.ANY, Due.X, 0));
        Due.due("loops, and what leads there", x.matches(2), 2);
        Due.addRule(x, 0, 0, ALL, ALL);
        Due.due("pairs, the same element for both too", x.matches(3), 16);
    }

    private static void matchesNegative() {
        Due.part("promise 11, negative");
        RuleMatcher x = new RuleMatcher();
        x.make(0, Due.fields(1, 0, 0));
        x.make(0, Due.fields(2, 0, 0));
        x.make(1, Due.fields(2, 5, 6));
        Due.addRule(x, 0, 2, Due.pattern(0, Due.X, Due.ANY, Due.ANY), Due.pattern(1, Due.X, Due.ANY, Due.ANY));
        Due.due("not of the same value", x.matches(0), 1);
        Due.addRule(x, 0, 2, ALL, ALL_1);
        Due.due("none of type 1", x.matches(1), 0);
        Due.addRule(x, 0, 2, ALL, Due.pattern(1, Due.ANY, Due.Y, Due.Y));
        Due.due("none of type 1 with f1 = f2", x.matches(2), 2);
        Due.addRule(x, 0, 6, ALL, Due.pattern(2, Due.Y, Due.ANY, Due.ANY), Due.pattern(1, Due.Y, Due.ANY, Due.ANY));
        Due.due("a negative one gives no value", x.matches(3), 0);
        x.remove(3);
        Due.due("not of the same value, removed", x.matches(0), 2);
        Due.due("none of type 1, removed", x.matches(1), 2);
        Due.due("a negative one gives no value, removed", x.matches(3), 2);
    }

    private static void matchesNegativeBeforeItsVariable() {
        Due.part("promise 11, order of conditions");
        RuleMatcher x = new RuleMatcher();
        int some = Due.pattern(0, Due.ANY, Due.ANY, Due.ANY);
        int binds = Due.pattern(1, Due.X, Due.ANY, Due.ANY);
        int tests = Due.pattern(2, Due.X, Due.ANY, Due.ANY);
        x.make(0, 0);
        x.make(1, Due.fields(3, 0, 0));
        x.make(2, Due.fields(4, 0, 0));
        Due.addRule(x, 0, 4, some, binds, tests);
        Due.due("negative after the value is given", x.matches(0), 1);
        Due.addRule(x, 0, 2, some, tests, binds);
        Due.due("negative before the value is given", x.matches(1), 0);
        x.remove(3);
        Due.due("negative before, nothing of the type", x.matches(1), 1);
    }

    private static void matchesAtMost() {
        Due.part("promise 11, most");
        RuleMatcher x = Due.withElements(0, 12);
        Due.addRule(x, 0, 0, ALL, ALL, ALL);
        Due.due("matches(0)", x.matches(0), 1728);
        for (int i = 1; i < 5; i++) {
            Due.addRule(x, 0, 0, ALL, ALL, ALL);
        }
        Due.due("open()", x.open(), 8640);
        Due.due("firstRule()", x.firstRule(), 0);
        Due.due("firstTag(2)", x.firstTag(2), 12);
    }

    private static void open() {
        Due.part("promise 12");
        RuleMatcher x = Due.withElements(0, 3);
        Due.due("open(), no rule", x.open(), 0);
        Due.addRule(x, 0, 0, ALL);
        Due.addRule(x, 0, 0, ALL, ALL);
        Due.due("open()", x.open(), 12);
        for (int left = 11; left >= 0; left--) {
            x.fire();
            Due.due("open() after fire", x.open(), left);
        }
        Due.due("matches(0)", x.matches(0), 3);
        x.make(0, 0);
        Due.due("open() with one more", x.open(), 8);
        x.remove(4);
        Due.due("open() without it", x.open(), 0);
        x.remove(3);
        Due.due("open() without the third", x.open(), 0);
        x.make(0, 0);
        Due.due("open(), another tag is another match", x.open(), 6);
    }

    private static void openAfterANegativePause() {
        Due.part("promise 12, the same match");
        RuleMatcher x = Due.withElements(0, 2);
        Due.addRule(x, 0, 2, ALL, ALL_1);
        Due.due("fire()", x.fire(), 0);
        Due.due("make(1, 0)", x.make(1, 0), 3);
        Due.due("open() while it is held back", x.open(), 0);
        Due.due("matches(0) while it is held back", x.matches(0), 0);
        x.remove(3);
        Due.due("matches(0) again", x.matches(0), 2);
        Due.due("open(), what has fired stays so", x.open(), 1);
        Due.due("firstTag(0)", x.firstTag(0), 1);
        Due.addRule(x, 0, 0, ALL);
        Due.due("open(), the same row of another rule", x.open(), 3);
    }

    private static void openIsAskedWithoutChange() {
        Due.part("promise 12, questions");
        RuleMatcher x = Due.withElements(0, 2);
        Due.addRule(x, Due.making(1, 1, 1, 1), 0, ALL);
        x.condition(ALL, 0);
        for (int i = 0; i < 3; i++) {
            Due.due("open()", x.open(), 2);
            Due.due("matches(0)", x.matches(0), 2);
            Due.due("firstRule()", x.firstRule(), 0);
            Due.due("firstTag(0)", x.firstTag(0), 2);
            Due.due("fitting(ALL)", x.fitting(ALL), 2);
            Due.due("elements()", x.elements(), 2);
            Due.due("rules()", x.rules(), 1);
        }
        Due.due("condition, the draft kept", x.condition(ALL, 1), 2);
    }

    private static void firstRuleByTags() {
        Due.part("promise 13");
        RuleMatcher x = new RuleMatcher();
        Due.due("firstRule(), no rule", x.firstRule(), -1);
        Due.addRule(x, 0, 0, ALL);
        Due.addRule(x, 0, 0, ALL_1);
        Due.due("firstRule(), no element", x.firstRule(), -1);
        x.make(0, 0);
        Due.due("firstRule()", x.firstRule(), 0);
        x.make(1, 0);
        Due.due("firstRule(), the newer element", x.firstRule(), 1);
        x.make(0, 0);
        Due.due("firstRule(), the newer element", x.firstRule(), 0);
        Due.due("fire()", x.fire(), 0);
        Due.due("firstRule(), fired ones left out", x.firstRule(), 1);
        Due.due("fire()", x.fire(), 1);
        Due.due("fire()", x.fire(), 0);
        Due.due("firstRule(), all fired", x.firstRule(), -1);
    }

    private static void firstRuleLongerFirst() {
        Due.part("promise 13, longer");
        RuleMatcher x = new RuleMatcher();
        Due.addRule(x, 0, 0, ALL_1);
        Due.addRule(x, 0, 0, ALL, ALL_1);
        Due.addRule(x, 0, 0, ALL, ALL, ALL_1);
        x.make(0, 0);
        x.make(1, 0);
        int[] order = {2, 1, 0};
        for (int rule : order) {
            Due.due("firstRule()", x.firstRule(), rule);
            Due.due("fire()", x.fire(), rule);
        }
        x.clearRules();
        Due.addRule(x, 0, 0, ALL_1, ALL);
        Due.addRule(x, 0, 0, ALL_1, ALL_1);
        Due.due("firstRule(), the second greatest tag decides", x.firstRule(), 1);
    }

    private static void firstRuleLesserNumber() {
        Due.part("promise 13, lesser number");
        RuleMatcher x = Due.withElements(0, 2);
        Due.addRule(x, 0, 0, ALL, ALL);
        Due.addRule(x, 0, 0, ALL, ALL);
        int[] rules = {0, 1, 0, 0, 1, 1, 0, 1};
        int[] first = {2, 2, 2, 1, 2, 1, 1, 1};
        int[] second = {2, 2, 1, 2, 1, 2, 1, 1};
        for (int i = 0; i < 8; i++) {
            Due.due("firstRule() " + i, x.firstRule(), rules[i]);
            Due.due("firstTag(0) " + i, x.firstTag(0), first[i]);
            Due.due("firstTag(1) " + i, x.firstTag(1), second[i]);
            Due.due("fire() " + i, x.fire(), rules[i]);
        }
        Due.due("fire()", x.fire(), -1);
    }

    private static void firstTag() {
        Due.part("promise 14");
        RuleMatcher x = new RuleMatcher();
        Due.due("firstTag(0), no rule", x.firstTag(0), -1);
        Due.due("firstTag(-1), no rule", x.firstTag(-1), -1);
        x.make(0, 0);
        x.make(1, 0);
        x.make(0, 0);
        Due.addRule(x, 0, 0, ALL_1, ALL);
        Due.due("firstTag(0)", x.firstTag(0), 2);
        Due.due("firstTag(1)", x.firstTag(1), 3);
        Due.due("firstTag(2)", x.firstTag(2), -2);
        Due.due("firstTag(3)", x.firstTag(3), -2);
        Due.due("firstTag(-1)", x.firstTag(-1), -2);
        for (int far : Due.FAR) {
            Due.due("firstTag(far)", x.firstTag(far), -2);
        }
        x.fire();
        Due.due("firstTag(1), the next one", x.firstTag(1), 1);
        x.fire();
        Due.due("firstTag(0), all fired", x.firstTag(0), -1);
        Due.due("firstTag(9), all fired", x.firstTag(9), -1);
    }

    private static void firstTagFallingOrder() {
        Due.part("promise 14, order of matches");
        RuleMatcher x = Due.withElements(0, 3);
        Due.addRule(x, 0, 0, ALL, ALL, ALL);
        firesInOrder(x, 0);
    }

    private static void firstTagFallingOrderAfterRemovals() {
        Due.part("promise 14, order of matches after removals");
        RuleMatcher x = Due.withElements(0, 5);
        x.remove(1);
        x.remove(2);
        Due.addRule(x, 0, 0, ALL, ALL, ALL);
        firesInOrder(x, 2);
    }

    /** The tags are those of ROWS, each greater by more. */
    private static void firesInOrder(RuleMatcher x, int more) {
        for (int row : ROWS) {
            Due.due("firstTag(0) of " + row, x.firstTag(0), row / 100 + more);
            Due.due("firstTag(1) of " + row, x.firstTag(1), row / 10 % 10 + more);
            Due.due("firstTag(2) of " + row, x.firstTag(2), row % 10 + more);
            Due.due("fire()", x.fire(), 0);
        }
        Due.due("firstTag(0)", x.firstTag(0), -1);
    }

    private static void firstTagSkipsNegative() {
        Due.part("promise 14, positive conditions");
        RuleMatcher x = Due.withElements(0, 1);
        x.make(1, 0);
        Due.addRule(x, 0, 2, ALL, Due.pattern(2, Due.ANY, Due.ANY, Due.ANY), ALL_1);
        Due.due("firstTag(0)", x.firstTag(0), 1);
        Due.due("firstTag(1)", x.firstTag(1), 2);
        Due.due("firstTag(2)", x.firstTag(2), -2);
    }
}
