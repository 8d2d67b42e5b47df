/** Promises 4, 5, 6 and 8: a test for each sentence that names a boundary case. */
public final class RuleEdgeTest {
    private static final int MIN = Integer.MIN_VALUE;
    private static final int MAX = Integer.MAX_VALUE;
    private static final int ALL = Due.all(0);
    private static final int ALL_1 = Due.all(1);

    public static void main(String[] args) {
        draftIsEmptyAtFirst();
        conditionPattern();
        conditionThree();
        conditionNegativeFirst();
        conditionNegativeLater();
        conditionInThisOrder();
        conditionAnswersHowMany();
        conditionAtTheEnd();
        conditionStaysInTheDraft();
        ruleEmptyDraft();
        ruleAction();
        ruleTooFewPositive();
        ruleFive();
        ruleInThisOrder();
        ruleEmptiesTheDraft();
        ruleAnswersItsNumber();
        ruleLeastAndGreatestAction();
        clearRulesNone();
        clearRulesAll();
        clearRulesEmptiesTheDraft();
        clearRulesForgetsFired();
        clearRulesLeavesElements();
        rulesNoneAndAll();
        Due.end();
    }

    private static void draftIsEmptyAtFirst() {
        Due.part("promise 4, \"(empty at first)\"");
        Run x = new Run();
        x.rule(0, -1);
        x.condition(ALL, 1, -3);
        x.condition(ALL, 0, 1);
    }

    private static void conditionPattern() {
        Due.part("promise 4, \"-1 if pattern is not in 0 .. 31999\"");
        Run x = new Run();
        x.condition(MIN, 0, -1);
        x.condition(-1, 0, -1);
        x.condition(32000, 0, -1);
        x.condition(MAX, 0, -1);
        for (int wrap : Due.WRAPS) {
            x.condition(wrap, 0, -1);
            x.condition(31999 + wrap, 0, -1);
        }
        x.condition(0, 0, 1);
        x.condition(31999, 0, 2);
        x.condition(MIN, 1, -1);
        x.condition(-1, 1, -1);
        x.condition(32000, 1, -1);
        x.condition(MAX, 1, -1);
        x.condition(31999, 1, 3);
    }

    private static void conditionThree() {
        Due.part("promise 4, \"-2 if the draft has 3 conditions\"");
        for (int negatives = 0; negatives < 8; negatives += 2) {
            Run x = Run.withElements(0, 2);
            x.condition(ALL, 0, 1);
            x.condition(ALL_1, negatives >> 1 & 1, 2);
            x.condition(ALL_1, negatives >> 2 & 1, 3);
            x.condition(ALL, 0, -2);
            x.condition(ALL_1, 1, -2);
            x.condition(ALL_1, MIN, -2);
            x.condition(31999, MAX, -2);
            x.rule(0, 0);
            x.matches(0, negatives == 6 ? 2 : 0);
            x.condition(ALL, 0, 1);
        }
    }

    private static void conditionNegativeFirst() {
        Due.part("promise 4, \"-3 if negative is not 0 and the draft is empty\"");
        Run x = new Run();
        int[] negatives = {MIN, -65536, -1, 1, 2, 256, 65536, 1 << 24, MAX};
        for (int negative : negatives) {
            x.condition(0, negative, -3);
            x.condition(31999, negative, -3);
        }
        x.rule(0, -1);
        x.condition(0, 0, 1);
        x.condition(0, 1, 2);
        x.rule(0, 0);
        x.condition(0, 1, -3);
        x.condition(0, 0, 1);
        x.clearRules(1);
        x.condition(0, 1, -3);
    }

    private static void conditionNegativeLater() {
        Due.part("promise 4, \"negative is not 0\"");
        int[] negatives = {MIN, -65536, -1, 1, 2, 256, 65536, 1 << 24, MAX};
        for (int negative : negatives) {
            Run x = Run.withElements(0, 1);
            x.condition(ALL, 0, 1);
            x.condition(ALL_1, negative, 2);
            x.rule(2, -3);
            x.rule(1, 0);
            x.matches(0, 1);
            x.make(1, 0, 2);
            x.matches(0, 0);
        }
    }

    private static void conditionInThisOrder() {
        Due.part("promise 4, -1, -2 and -3 in this order");
        Run x = new Run();
        x.condition(-1, 1, -1);
        x.condition(32000, MIN, -1);
        x.condition(31999, 1, -3);
        x.condition(ALL, 0, 1);
        x.condition(ALL, 0, 2);
        x.condition(ALL, 0, 3);
        x.condition(-1, 0, -1);
        x.condition(32000, 1, -1);
        x.condition(31999, 1, -2);
        x.condition(0, 0, -2);
    }

    private static void conditionAnswersHowMany() {
        Due.part("promise 4, \"otherwise answers how many conditions it has\"");
        Run x = new Run();
        for (int rule = 0; rule < 5; rule++) {
            x.condition(ALL, 0, 1);
            x.condition(ALL, rule % 2, 2);
            x.condition(ALL, rule / 2 % 2, 3);
            x.rule(0, rule);
        }
        // A draft there may be, even if it can't become a rule.
        x.condition(ALL, 0, 1);
        x.condition(ALL, 1, 2);
        x.condition(ALL, 0, 3);
        x.condition(ALL, 0, -2);
    }

    private static void conditionAtTheEnd() {
        Due.part("promise 4, \"at the end of the draft\"");
        Run x = new Run();
        x.make(0, 0, 1);
        x.make(1, 0, 2);
        x.make(2, 0, 3);
        x.addRule(0, 0, 0, Due.all(2), ALL, ALL_1);
        x.addRule(1, 0, 2, ALL_1, Due.all(3), Due.all(2));
        x.firesNext(0, 3, 1, 2);
        x.firesNext(1, 2, 3);
    }

    private static void conditionStaysInTheDraft() {
        Due.part("promise 4, the draft, whatever is done in between");
        Run x = Run.withElements(0, 3);
        x.addRule(0, 1, 0, ALL);
        x.addRule(1, Due.making(1, 0, 0, 0), 0, Due.all(2));
        x.condition(ALL, 0, 1);
        x.remove(1, 2);
        x.condition(ALL_1, 1, 2);
        x.fire(0);
        x.make(2, 0, 4);
        x.condition(ALL, 0, 3);
        x.run(30, 2);
        x.fire(-1);
        x.remove(5, 1);
        x.condition(ALL, 0, -2);
        x.rule(3, -3);
        x.rule(2, 2);
        x.make(0, 0, 6);
        x.matches(2, 1);
    }

    private static void ruleEmptyDraft() {
        Due.part("promise 5, \"-1 if the draft is empty\"");
        Run x = new Run();
        int[] actions = {MIN, -1, 0, 1, 3, 4, 32003, 32004, MAX};
        for (int action : actions) {
            x.rule(action, -1);
        }
        x.rules(0);
        x.condition(ALL, 1, -3);
        x.rule(0, -1);
        x.condition(ALL, 0, 1);
        x.rule(0, 0);
        x.rule(0, -1);
    }

    private static void ruleAction() {
        Due.part("promise 5, \"-2 if action is not in 0 .. 32003\"");
        Run x = Run.withElements(0, 1);
        x.condition(ALL, 0, 1);
        x.rule(MIN, -2);
        x.rule(-1, -2);
        x.rule(32004, -2);
        x.rule(MAX, -2);
        for (int wrap : Due.WRAPS) {
            x.rule(wrap, -2);
            x.rule(32003 + wrap, -2);
        }
        x.rules(0);
        x.rule(0, 0);
        x.addRule(1, 32003, 0, ALL);
        x.rules(2);
    }

    private static void ruleTooFewPositive() {
        Due.part("promise 5, \"-3 if action is 1 .. 3 and the draft has not so many positive conditions\"");
        // Bit i: whether condition i is negative. The draft's length, its negatives, how many are positive.
        int[][] drafts = {{1, 0, 1}, {2, 0, 2}, {2, 2, 1}, {3, 0, 3}, {3, 2, 2}, {3, 4, 2}, {3, 6, 1}};
        for (int[] draft : drafts) {
            Run x = new Run();
            for (int i = 0; i < draft[0]; i++) {
                x.condition(ALL, draft[1] >> i & 1, i + 1);
            }
            for (int action = 3; action > draft[2]; action--) {
                x.rule(action, -3);
            }
            x.rules(0);
            x.rule(draft[2], 0);
            // 0 and 4, on either side of 1 .. 3, ask for no positive condition.
            x.addRule(1, 0, 0, ALL);
            x.addRule(2, 4, 0, ALL);
        }
    }

    private static void ruleFive() {
        Due.part("promise 5, \"-4 if there are 5 rules\"");
        Run x = Run.withElements(0, 1);
        for (int rule = 0; rule < 4; rule++) {
            x.addRule(rule, 0, 0, ALL_1);
        }
        x.addRule(4, 0, 0, ALL);
        x.condition(ALL, 0, 1);
        x.rule(0, -4);
        x.rule(1, -4);
        x.rule(4, -4);
        x.rule(32003, -4);
        x.rules(5);
        x.matches(4, 1);
        x.matches(5, -1);
        x.open(1);
        x.condition(ALL, 0, 2);
    }

    private static void ruleInThisOrder() {
        Due.part("promise 5, -1, -2, -3 and -4 in this order");
        Run x = new Run();
        x.rule(-1, -1);
        x.rule(3, -1);
        x.condition(ALL, 0, 1);
        x.rule(-1, -2);
        x.rule(2, -3);
        x.rule(0, 0);
        for (int rule = 1; rule < 5; rule++) {
            x.addRule(rule, 0, 0, ALL);
        }
        x.rule(-1, -1);
        x.rule(2, -1);
        x.rule(0, -1);
        x.condition(ALL, 0, 1);
        x.rule(-1, -2);
        x.rule(32004, -2);
        x.rule(2, -3);
        x.rule(3, -3);
        x.rule(1, -4);
    }

    private static void ruleEmptiesTheDraft() {
        Due.part("promise 5, \"the draft becomes empty\"");
        Run x = Run.withElements(0, 1);
        for (int rule = 0; rule < 4; rule++) {
            x.addRule(rule, 3, 0, ALL, ALL, ALL);
            x.rule(0, -1);
            x.condition(ALL, 1, -3);
        }
        x.condition(ALL, 0, 1);
        x.rule(2, -3);
        x.rule(1, 4);
        x.rule(0, -1);
        x.condition(ALL, 0, 1);
        x.rule(2, -3);
    }

    private static void ruleAnswersItsNumber() {
        Due.part("promise 5, \"at the end of the rules\"");
        Run x = new Run();
        for (int rule = 0; rule < 5; rule++) {
            x.addRule(rule, 0, 0, Due.pattern(0, Due.ANY, rule, Due.ANY));
        }
        for (int rule = 0; rule < 5; rule++) {
            x.make(0, Due.fields(0, rule, 0), rule + 1);
            for (int other = 0; other < 5; other++) {
                x.matches(other, other <= rule ? 1 : 0);
            }
        }
    }

    private static void ruleLeastAndGreatestAction() {
        Due.part("promise 5, the last and the first action of each kind");
        Run x = new Run();
        x.make(0, Due.fields(0, 0, 15), 1);
        int one = Due.pattern(0, Due.ANY, Due.ANY, Due.Z);
        x.addRule(0, 0, 0, one);
        x.addRule(1, 4, 0, one);
        x.addRule(2, 32003, 0, one);
        x.firesNext(0, 1);
        x.elements(1);
        x.firesNext(1, 1);
        x.contents(2, 0);
        x.clearRules(3);
        x.remove(2, 1);
        x.addRule(0, 32003, 0, one);
        x.addRule(1, 1, 0, one);
        x.firesNext(0, 1);
        x.contents(3, 16383);
        x.firesNext(1, 1);
        x.exists(1, 0);
        x.make(0, 0, 4);
        x.make(0, 0, 5);
        x.make(0, 0, 6);
        x.clearRules(2);
        x.addRule(0, 3, 0, one, one, one);
        x.firesNext(0, 6, 6, 6);
        x.exists(6, 0);
        x.firesNext(0, 5, 5, 5);
        x.exists(5, 0);
        x.exists(4, 1);
    }

    private static void clearRulesNone() {
        Due.part("promise 6, no rules");
        Run x = new Run();
        x.clearRules(0);
        x.clearRules(0);
        x.condition(ALL, 0, 1);
        x.clearRules(0);
        x.rule(0, -1);
        x.addRule(0, 0, 0, ALL);
        x.clearRules(1);
        x.clearRules(0);
    }

    private static void clearRulesAll() {
        Due.part("promise 6, \"Takes all rules away\"");
        for (int count = 1; count <= 5; count++) {
            Run x = Run.withElements(0, 1);
            for (int rule = 0; rule < count; rule++) {
                x.addRule(rule, 0, 0, ALL);
            }
            x.clearRules(count);
            x.rules(0);
            x.open(0);
            x.firstRule(-1);
            x.firstTag(0, -1);
            for (int rule = 0; rule < 5; rule++) {
                x.matches(rule, -1);
            }
            x.fire(-1);
            x.addRule(0, 0, 0, ALL_1);
            x.matches(0, 0);
            x.matches(1, -1);
        }
    }

    private static void clearRulesEmptiesTheDraft() {
        Due.part("promise 6, \"empties the draft\"");
        for (int rules = 0; rules <= 5; rules++) {
            Run x = Run.withElements(0, 2);
            for (int rule = 0; rule < rules; rule++) {
                x.addRule(rule, 0, 0, ALL);
            }
            x.condition(ALL, 0, 1);
            x.condition(ALL, 0, 2);
            x.condition(ALL, 0, 3);
            x.clearRules(rules);
            x.rule(0, -1);
            x.condition(ALL, 1, -3);
            x.condition(ALL, 0, 1);
            x.rule(2, -3);
            x.rule(0, 0);
            x.matches(0, 2);
            // Nor does a draft come back when as many rules stand again.
            for (int rule = 1; rule < 5; rule++) {
                x.rule(0, -1);
                x.addRule(rule, 0, 0, ALL);
            }
            x.rule(0, -1);
            x.condition(ALL, 0, 1);
        }
    }

    private static void clearRulesForgetsFired() {
        Due.part("promise 6, \"forgets which matches have fired\"");
        Run x = Run.withElements(0, 10);
        for (int rule = 0; rule < 4; rule++) {
            x.addRule(rule, 0, 0, ALL);
        }
        x.run(30, 30);
        x.run(10, 10);
        x.open(0);
        x.clearRules(4);
        for (int rule = 0; rule < 5; rule++) {
            x.addRule(rule, 0, 0, ALL);
        }
        x.open(50);
        x.firesNext(0, 10);
        // None of the forty counts any more: forty can fire again, this one among them.
        x.run(30, 30);
        x.run(9, 9);
        x.fire(-2);
        x.open(10);
    }

    private static void clearRulesLeavesElements() {
        Due.part("promise 6, elements stay");
        Run x = Run.withElements(2, 12);
        x.addRule(0, 0, 0, Due.all(2));
        x.clearRules(1);
        x.elements(12);
        x.fitting(Due.all(2), 12);
        x.make(0, 0, -3);
        x.remove(12, 11);
        x.make(0, 0, 13);
    }

    private static void rulesNoneAndAll() {
        Due.part("promise 8, none and 5");
        Run x = new Run();
        x.rules(0);
        for (int rule = 0; rule < 5; rule++) {
            x.condition(ALL, 0, 1);
            x.rules(rule);
            x.rule(0, rule);
            x.rules(rule + 1);
        }
        x.condition(ALL, 0, 1);
        x.rules(5);
        x.rule(0, -4);
        x.rules(5);
        x.clearRules(5);
        x.rules(0);
    }
}
