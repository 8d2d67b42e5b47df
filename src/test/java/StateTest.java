/** Promises 1 to 10 and 17: the elements, the rules and the draft, without matching. */
public final class StateTest {
    private static final int ALL = Due.pattern(0, Due.ANY, Due.ANY, Due.ANY);

    public static void main(String[] args) {
        newObject();
        make();
        remove();
        condition();
        conditionOrderOfTests();
        rule();
        ruleOrderOfTests();
        clearRules();
        clearRulesForgets();
        elements();
        rules();
        exists();
        contents();
        fitting();
        Due.end();
    }

    private static void newObject() {
        Due.part("promise 1");
        RuleMatcher used = new RuleMatcher();
        used.make(0, 0);
        used.condition(ALL, 0);
        used.rule(0);
        used.condition(ALL, 0);
        used.fire();
        RuleMatcher x = new RuleMatcher();
        Due.due("elements()", x.elements(), 0);
        Due.due("rules()", x.rules(), 0);
        Due.due("exists(0)", x.exists(0), 0);
        Due.due("exists(1)", x.exists(1), 0);
        Due.due("contents(1)", x.contents(1), -1);
        Due.due("fitting(ALL)", x.fitting(ALL), 0);
        Due.due("matches(0)", x.matches(0), -1);
        Due.due("open()", x.open(), 0);
        Due.due("firstRule()", x.firstRule(), -1);
        Due.due("firstTag(0)", x.firstTag(0), -1);
        Due.due("fire()", x.fire(), -1);
        Due.due("run(1)", x.run(1), 0);
        Due.due("rule(0)", x.rule(0), -1);
        Due.due("remove(1)", x.remove(1), -1);
        Due.due("remove(0)", x.remove(0), -1);
        Due.due("clearRules()", x.clearRules(), 0);
        Due.due("make(0, 0)", x.make(0, 0), 1);
        Due.due("the used object's elements()", used.elements(), 1);
        Due.due("the used object's rules()", used.rules(), 1);
    }

    private static void make() {
        Due.part("promise 2");
        RuleMatcher x = new RuleMatcher();
        Due.due("make(-1, 0)", x.make(-1, 0), -1);
        Due.due("make(4, 0)", x.make(4, 0), -1);
        Due.due("make(-1, -1)", x.make(-1, -1), -1);
        Due.due("make(4, 4096)", x.make(4, 4096), -1);
        Due.due("make(0, -1)", x.make(0, -1), -2);
        Due.due("make(3, 4096)", x.make(3, 4096), -2);
        for (int far : Due.FAR) {
            Due.due("make(far, 0)", x.make(far, 0), -1);
            Due.due("make(0, far)", x.make(0, far), -2);
        }
        Due.due("elements() after refusals", x.elements(), 0);
        Due.due("make(0, 0)", x.make(0, 0), 1);
        Due.due("make(3, 4095)", x.make(3, 4095), 2);
        Due.due("contents(1)", x.contents(1), 0);
        Due.due("contents(2)", x.contents(2), 16383);
        for (int tag = 3; tag <= 12; tag++) {
            Due.due("make(1, tag)", x.make(1, tag), tag);
        }
        Due.due("make(1, 0) with 12", x.make(1, 0), -3);
        Due.due("make(4, 0) with 12", x.make(4, 0), -1);
        Due.due("make(0, 4096) with 12", x.make(0, 4096), -2);
        Due.due("elements() with 12", x.elements(), 12);
        Due.due("remove(12)", x.remove(12), 11);
        Due.due("make(2, 7), no tag used again or left out", x.make(2, 7), 13);
        Due.due("contents(13)", x.contents(13), 8199);
        Due.due("exists(12)", x.exists(12), 0);
    }

    private static void remove() {
        Due.part("promise 3");
        RuleMatcher x = new RuleMatcher();
        for (int tag = 1; tag <= 12; tag++) {
            x.make(tag % 4, 100 * tag);
        }
        Due.due("remove(0)", x.remove(0), -1);
        Due.due("remove(-1)", x.remove(-1), -1);
        Due.due("remove(13)", x.remove(13), -1);
        for (int far : Due.FAR) {
            Due.due("remove(far)", x.remove(far), -1);
        }
        Due.due("elements() after refusals", x.elements(), 12);
        int[] order = {1, 12, 6, 7, 5, 2, 11, 3, 10, 4, 9, 8};
        for (int i = 0; i < 12; i++) {
            Due.due("remove " + order[i], x.remove(order[i]), 11 - i);
            Due.due("remove it again", x.remove(order[i]), -1);
            for (int j = 0; j < 12; j++) {
                int tag = order[j];
                int want = j <= i ? -1 : 4096 * (tag % 4) + 100 * tag;
                Due.due("contents(" + tag + ")", x.contents(tag), want);
            }
        }
        Due.due("make(0, 0)", x.make(0, 0), 13);
        Due.due("remove(13)", x.remove(13), 0);
        Due.due("remove(0) when empty", x.remove(0), -1);
    }

    private static void condition() {
        Due.part("promise 4");
        RuleMatcher x = new RuleMatcher();
        Due.due("condition(0, 1)", x.condition(0, 1), -3);
        Due.due("condition(0, -1)", x.condition(0, -1), -3);
        Due.due("condition(-1, 0)", x.condition(-1, 0), -1);
        Due.due("condition(32000, 0)", x.condition(32000, 0), -1);
        for (int far : Due.FAR) {
            Due.due("condition(far, 0)", x.condition(far, 0), -1);
            Due.due("condition(0, far)", x.condition(0, far), -3);
        }
        Due.due("rule(0), the draft still empty", x.rule(0), -1);
        Due.due("condition(31999, 0)", x.condition(31999, 0), 1);
        Due.due("condition(0, MIN)", x.condition(0, Integer.MIN_VALUE), 2);
        Due.due("condition(0, 0)", x.condition(0, 0), 3);
        Due.due("rule(3), two positive", x.rule(3), -3);
        Due.due("rule(2)", x.rule(2), 0);
        Due.due("condition(0, 1), empty again", x.condition(0, 1), -3);
        Due.due("condition(0, 0)", x.condition(0, 0), 1);
    }

    private static void conditionOrderOfTests() {
        Due.part("promise 4, order");
        RuleMatcher x = new RuleMatcher();
        Due.due("condition(-1, 1)", x.condition(-1, 1), -1);
        x.condition(ALL, 0);
        x.condition(ALL, 0);
        x.condition(ALL, 0);
        Due.due("condition(32000, 0) when full", x.condition(32000, 0), -1);
        Due.due("condition(ALL, 0) when full", x.condition(ALL, 0), -2);
        Due.due("condition(ALL, 1) when full", x.condition(ALL, 1), -2);
        Due.due("rule(3)", x.rule(3), 0);
        x.make(0, 0);
        x.make(0, 1);
        Due.due("matches(0), the draft unchanged by refusals", x.matches(0), 8);
    }

    private static void rule() {
        Due.part("promise 5");
        RuleMatcher x = new RuleMatcher();
        Due.due("rule(0)", x.rule(0), -1);
        x.condition(ALL, 0);
        Due.due("rule(-1)", x.rule(-1), -2);
        Due.due("rule(32004)", x.rule(32004), -2);
        for (int far : Due.FAR) {
            Due.due("rule(far)", x.rule(far), -2);
        }
        Due.due("rule(2) with one", x.rule(2), -3);
        Due.due("rule(3) with one", x.rule(3), -3);
        Due.due("rules() after refusals", x.rules(), 0);
        Due.due("condition, the draft kept", x.condition(ALL, 1), 2);
        Due.due("rule(2) with one and a negative one", x.rule(2), -3);
        Due.due("rule(1)", x.rule(1), 0);
        Due.due("rule(1), the draft empty", x.rule(1), -1);
        Due.due("rule 1", Due.addRule(x, 2, 0, ALL, ALL), 1);
        Due.due("rule 2", Due.addRule(x, 3, 0, ALL, ALL, ALL), 2);
        Due.due("rule 3", Due.addRule(x, 32003, 0, ALL), 3);
        Due.due("rule 4", Due.addRule(x, 4, 0, ALL), 4);
        Due.due("rules()", x.rules(), 5);
    }

    private static void ruleOrderOfTests() {
        Due.part("promise 5, order");
        RuleMatcher x = new RuleMatcher();
        Due.due("rule(-1), empty", x.rule(-1), -1);
        Due.due("rule(3), empty", x.rule(3), -1);
        for (int i = 0; i < 5; i++) {
            Due.due("a rule", Due.addRule(x, 0, 0, ALL), i);
        }
        Due.due("rule(0), empty, 5 rules", x.rule(0), -1);
        Due.due("condition with 5 rules", x.condition(ALL, 0), 1);
        Due.due("rule(32004), 5 rules", x.rule(32004), -2);
        Due.due("rule(2), 5 rules", x.rule(2), -3);
        Due.due("rule(1), 5 rules", x.rule(1), -4);
        Due.due("rule(0), 5 rules", x.rule(0), -4);
        Due.due("rules()", x.rules(), 5);
        Due.due("the draft kept", x.condition(ALL, 0), 2);
        Due.due("the draft kept", x.condition(ALL, 0), 3);
        Due.due("the draft full", x.condition(ALL, 0), -2);
        x.make(0, 0);
        Due.due("matches(4), not the draft's", x.matches(4), 1);
        Due.due("open()", x.open(), 5);
        Due.due("matches(5)", x.matches(5), -1);
    }

    private static void clearRules() {
        Due.part("promise 6");
        RuleMatcher x = Due.withElements(0, 2);
        Due.addRule(x, 0, 0, ALL);
        Due.addRule(x, 0, 0, ALL, ALL);
        x.condition(ALL, 0);
        Due.due("run(30)", x.run(30), 6);
        Due.due("clearRules()", x.clearRules(), 2);
        Due.due("rules()", x.rules(), 0);
        Due.due("matches(0)", x.matches(0), -1);
        Due.due("open()", x.open(), 0);
        Due.due("elements() stay", x.elements(), 2);
        Due.due("rule(0), the draft emptied", x.rule(0), -1);
        Due.due("condition negative, the draft emptied", x.condition(ALL, 1), -3);
        Due.due("clearRules() again", x.clearRules(), 0);
        Due.due("rule 0 anew", Due.addRule(x, 0, 0, ALL), 0);
        Due.due("open(), fired ones forgotten", x.open(), 2);
        for (int i = 1; i < 5; i++) {
            Due.due("rule " + i, Due.addRule(x, 0, 0, ALL), i);
        }
        x.condition(ALL, 0);
        x.condition(ALL, 0);
        Due.due("clearRules() of 5", x.clearRules(), 5);
        Due.due("one condition, one positive", Due.addRule(x, 2, 0, ALL), -3);
        Due.due("rule(1)", x.rule(1), 0);
        Due.due("matches(0)", x.matches(0), 2);
    }

    private static void clearRulesForgets() {
        Due.part("promise 6, fired matches");
        RuleMatcher x = Due.withElements(0, 3);
        for (int times = 1; times <= 3; times++) {
            Due.due("the same rule anew", Due.addRule(x, 0, 0, ALL), 0);
            Due.due("open(), all of them", x.open(), 3);
            Due.due("firstTag(0), the first of all", x.firstTag(0), 3);
            Due.due("run(times)", x.run(times), times);
            Due.due("clearRules()", x.clearRules(), 1);
        }
    }

    private static void elements() {
        Due.part("promise 7");
        RuleMatcher x = new RuleMatcher();
        for (int i = 1; i <= 12; i++) {
            x.make(0, i);
            Due.due("elements()", x.elements(), i);
        }
        x.make(0, 0);
        Due.due("elements() after a refused make", x.elements(), 12);
        x.remove(5);
        Due.due("elements() after remove", x.elements(), 11);
        x.remove(5);
        Due.due("elements() after a refused remove", x.elements(), 11);
        Due.addRule(x, 1, 0, ALL);
        x.fire();
        Due.due("elements() after a removing action", x.elements(), 10);
    }

    private static void rules() {
        Due.part("promise 8");
        RuleMatcher x = new RuleMatcher();
        for (int i = 1; i <= 5; i++) {
            x.condition(ALL, 0);
            Due.due("rules() with a draft", x.rules(), i - 1);
            x.rule(0);
            Due.due("rules()", x.rules(), i);
        }
        x.condition(ALL, 0);
        x.rule(0);
        Due.due("rules() after a refused rule", x.rules(), 5);
        x.clearRules();
        Due.due("rules() after clearRules", x.rules(), 0);
    }

    private static void exists() {
        Due.part("promise 9");
        RuleMatcher x = Due.withElements(2, 3);
        int[] there = {0, 1, 1, 1, 0};
        for (int tag = 0; tag <= 4; tag++) {
            Due.due("exists(" + tag + ")", x.exists(tag), there[tag]);
        }
        Due.due("exists(-1)", x.exists(-1), 0);
        for (int far : Due.FAR) {
            Due.due("exists(far)", x.exists(far), 0);
        }
        x.remove(2);
        Due.due("exists(1)", x.exists(1), 1);
        Due.due("exists(2) removed", x.exists(2), 0);
        Due.due("exists(3)", x.exists(3), 1);
        x.remove(3);
        Due.due("exists(3) removed", x.exists(3), 0);
        x.remove(1);
        Due.due("exists(1) removed", x.exists(1), 0);
    }

    private static void contents() {
        Due.part("promise 10");
        RuleMatcher x = new RuleMatcher();
        x.make(0, Due.fields(1, 2, 3));
        x.make(1, Due.fields(15, 0, 0));
        x.make(2, Due.fields(0, 15, 0));
        x.make(3, Due.fields(0, 0, 15));
        Due.due("contents(1)", x.contents(1), 291);
        Due.due("contents(2)", x.contents(2), 4096 + 3840);
        Due.due("contents(3)", x.contents(3), 8192 + 240);
        Due.due("contents(4)", x.contents(4), 12288 + 15);
        Due.due("contents(0)", x.contents(0), -1);
        Due.due("contents(5)", x.contents(5), -1);
        for (int far : Due.FAR) {
            Due.due("contents(far)", x.contents(far), -1);
        }
        x.remove(1);
        Due.due("contents(1) removed", x.contents(1), -1);
        Due.due("contents(4)", x.contents(4), 12288 + 15);
    }

    private static void fitting() {
        Due.part("promise 17");
        RuleMatcher x = new RuleMatcher();
        x.make(0, Due.fields(1, 1, 2));
        x.make(0, Due.fields(2, 2, 2));
        x.make(0, Due.fields(1, 2, 1));
        x.make(0, Due.fields(15, 1, 1));
        x.make(1, Due.fields(1, 1, 2));
        x.make(3, Due.fields(0, 0, 0));
        Due.due("fitting(-1)", x.fitting(-1), -1);
        Due.due("fitting(32000)", x.fitting(32000), -1);
        for (int far : Due.FAR) {
            Due.due("fitting(far)", x.fitting(far), -1);
        }
        Due.due("all of type 0", x.fitting(ALL), 4);
        Due.due("all of type 1", x.fitting(Due.pattern(1, Due.ANY, Due.ANY, Due.ANY)), 1);
        Due.due("all of type 2", x.fitting(Due.pattern(2, Due.ANY, Due.ANY, Due.ANY)), 0);
        Due.due("fitting(24000)", x.fitting(24000), 1);
        Due.due("fitting(31999)", x.fitting(31999), 1);
        Due.due("fitting(0)", x.fitting(0), 0);
        Due.due("values", x.fitting(Due.pattern(0, 1, 1, 2)), 1);
        Due.due("value in f0", x.fitting(Due.pattern(0, 1, Due.ANY, Due.ANY)), 2);
        Due.due("value 15 in f0", x.fitting(Due.pattern(0, 15, Due.ANY, Due.ANY)), 1);
        Due.due("value in f1", x.fitting(Due.pattern(0, Due.ANY, 2, Due.ANY)), 2);
        Due.due("value in f2", x.fitting(Due.pattern(0, Due.ANY, Due.ANY, 1)), 2);
        Due.due("three variables", x.fitting(Due.pattern(0, Due.X, Due.Y, Due.Z)), 4);
        Due.due("f0 = f1", x.fitting(Due.pattern(0, Due.X, Due.X, Due.ANY)), 2);
        Due.due("f0 = f2", x.fitting(Due.pattern(0, Due.Y, Due.ANY, Due.Y)), 2);
        Due.due("f1 = f2", x.fitting(Due.pattern(0, Due.X, Due.Z, Due.Z)), 2);
        Due.due("all the same", x.fitting(Due.pattern(0, Due.Z, Due.Z, Due.Z)), 1);
        Due.due("f0 = f1, f2 = 2", x.fitting(Due.pattern(0, Due.X, Due.X, 2)), 2);
        Due.addRule(x, 0, 0, Due.pattern(0, Due.X, Due.Y, Due.Z));
        x.fire();
        Due.due("no value is left over from matching", x.fitting(Due.pattern(0, Due.X, Due.Y, Due.Z)), 4);
        x.remove(2);
        Due.due("all the same, removed", x.fitting(Due.pattern(0, Due.Z, Due.Z, Due.Z)), 0);
    }
}
