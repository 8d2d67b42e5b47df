/** Promises 11 to 14: a test for each sentence that names a boundary case. */
public final class MatchEdgeTest {
    private static final int MIN = Integer.MIN_VALUE;
    private static final int MAX = Integer.MAX_VALUE;
    private static final int ANY = Due.ANY;
    private static final int X = Due.X;
    private static final int ALL = Due.all(0);
    private static final int ALL_1 = Due.all(1);

    public static void main(String[] args) {
        matchesNoSuchRule();
        matchesNoSuchRuleOfFive();
        matchesNotOfTheDraft();
        matchesOpenOrNot();
        matchesNone();
        matchesFewestAndMost();
        matchesAsElementsComeAndGo();
        openNoRuleNoElementNoMatch();
        openOfSeveralRules();
        openWithoutFiredOnes();
        openAgainOnlyAsAnotherMatch();
        openMost();
        firstRuleNone();
        firstRuleOnlyOneOpen();
        firstRuleOfTheLastRule();
        firstRuleSkipsFired();
        firstTagNone();
        firstTagNoSuchCondition();
        firstTagNoneBeforeNoSuchCondition();
        firstTagCountsPositiveOnes();
        firstTagOfItsOwnRule();
        Due.end();
    }

    private static void matchesNoSuchRule() {
        Due.part("promise 11, \"-1 if there is no such rule\"");
        Run x = Run.withElements(0, 2);
        x.matches(0, -1);
        x.matches(-1, -1);
        x.addRule(0, 0, 0, ALL);
        x.matches(MIN, -1);
        x.matches(-1, -1);
        x.matches(0, 2);
        x.matches(1, -1);
        x.matches(MAX, -1);
        for (int wrap : Due.WRAPS) {
            x.matches(wrap, -1);
        }
        x.matches(256, -1);
        x.clearRules(1);
        x.matches(0, -1);
    }

    private static void matchesNoSuchRuleOfFive() {
        Due.part("promise 11, \"-1 if there is no such rule\", 5 rules");
        Run x = Run.withElements(0, 1);
        for (int rule = 0; rule < 5; rule++) {
            x.matches(rule, -1);
            x.addRule(rule, 0, 0, ALL);
            x.matches(rule, 1);
        }
        x.matches(-1, -1);
        x.matches(4, 1);
        x.matches(5, -1);
        x.matches(6, -1);
        x.matches(MIN, -1);
        x.matches(MAX, -1);
    }

    private static void matchesNotOfTheDraft() {
        Due.part("promise 11, a draft is no rule");
        Run x = Run.withElements(0, 1);
        x.condition(ALL, 0, 1);
        x.matches(0, -1);
        x.open(0);
        x.rule(2, -3);
        x.matches(0, -1);
        x.rule(0, 0);
        x.matches(0, 1);
        x.condition(ALL, 0, 1);
        x.matches(1, -1);
        x.matches(0, 1);
        x.open(1);
    }

    private static void matchesOpenOrNot() {
        Due.part("promise 11, \"open or not\"");
        Run x = Run.withElements(0, 3);
        x.addRule(0, 0, 0, ALL);
        for (int fired = 0; fired <= 3; fired++) {
            x.matches(0, 3);
            x.open(3 - fired);
            x.fire(fired < 3 ? 0 : -1);
        }
        x.make(0, 0, 4);
        x.matches(0, 4);
        x.remove(4, 3);
        x.remove(1, 2);
        x.matches(0, 2);
        x.open(0);
    }

    private static void matchesNone() {
        Due.part("promise 11, no match");
        Run x = new Run();
        x.addRule(0, 0, 0, ALL);
        x.addRule(1, 0, 0, ALL, ALL_1);
        x.addRule(2, 0, 2, ALL, ALL);
        x.addRule(3, 0, 0, Due.pattern(0, X, X, ANY), Due.pattern(0, ANY, 5, X));
        x.addRule(4, 0, 6, ALL, ALL_1, ALL_1);
        int[] withOne = {1, 0, 0, 0, 1};
        for (int rule = 0; rule < 5; rule++) {
            x.matches(rule, 0);
        }
        x.make(0, 0, 1);
        for (int rule = 0; rule < 5; rule++) {
            x.matches(rule, withOne[rule]);
        }
        x.make(1, 0, 2);
        int[] withTwo = {1, 1, 0, 0, 0};
        for (int rule = 0; rule < 5; rule++) {
            x.matches(rule, withTwo[rule]);
        }
    }

    private static void matchesFewestAndMost() {
        Due.part("promise 11, 1 and 12 elements");
        Run x = new Run();
        x.addRule(0, 0, 0, ALL);
        x.addRule(1, 0, 0, ALL, ALL);
        x.addRule(2, 0, 0, ALL, ALL, ALL);
        x.make(0, 0, 1);
        x.matches(0, 1);
        x.matches(1, 1);
        x.matches(2, 1);
        for (int tag = 2; tag <= 12; tag++) {
            x.make(0, 0, tag);
        }
        x.matches(0, 12);
        x.matches(1, 144);
        x.matches(2, 1728);
    }

    private static void matchesAsElementsComeAndGo() {
        Due.part("promise 11, elements removed and made");
        Run x = Run.withElements(0, 12);
        x.addRule(0, 0, 0, ALL, ALL);
        for (int tag = 1; tag <= 12; tag++) {
            x.remove(tag, 12 - tag);
            x.matches(0, (12 - tag) * (12 - tag));
        }
        x.make(0, 0, 13);
        x.matches(0, 1);
    }

    private static void openNoRuleNoElementNoMatch() {
        Due.part("promise 12, no match");
        Run x = new Run();
        x.open(0);
        x.addRule(0, 0, 0, ALL);
        x.open(0);
        x.make(1, 0, 1);
        x.open(0);
        x.make(0, 0, 2);
        x.open(1);
        x.remove(2, 1);
        x.open(0);
        x.clearRules(1);
        x.make(0, 0, 3);
        x.open(0);
    }

    private static void openOfSeveralRules() {
        Due.part("promise 12, \"all rules\"");
        Run x = Run.withElements(0, 2);
        x.make(1, 0, 3);
        x.addRule(0, 0, 0, ALL);
        x.open(2);
        x.addRule(1, 0, 0, ALL_1);
        x.open(3);
        x.addRule(2, 0, 0, ALL, ALL_1);
        x.open(5);
        x.addRule(3, 0, 0, ALL, ALL, ALL);
        x.open(13);
        x.addRule(4, 0, 0, Due.all(2));
        x.open(13);
        x.make(2, 0, 4);
        x.open(14);
    }

    private static void openWithoutFiredOnes() {
        Due.part("promise 12, fired ones");
        Run x = Run.withElements(0, 2);
        x.addRule(0, 0, 0, ALL);
        x.addRule(1, 0, 0, ALL);
        for (int left = 3; left >= 0; left--) {
            x.fire(left % 2 == 1 ? 0 : 1);
            x.open(left);
        }
        x.fire(-1);
        x.open(0);
        x.addRule(2, 0, 0, ALL);
        x.open(2);
    }

    private static void openAgainOnlyAsAnotherMatch() {
        Due.part("promise 12, the same match fires once");
        Run x = Run.withElements(0, 2);
        x.addRule(0, 0, 2, ALL, ALL_1);
        x.run(30, 2);
        x.open(0);
        x.make(1, 0, 3);
        x.remove(3, 2);
        x.open(0);
        x.matches(0, 2);
        x.remove(2, 1);
        x.open(0);
        x.make(0, 0, 4);
        x.open(1);
        x.firstTag(0, 4);
    }

    private static void openMost() {
        Due.part("promise 12, most");
        Run x = Run.withElements(0, 12);
        x.addRule(0, 0, 0, ALL, ALL, ALL);
        x.open(1728);
        x.addRule(1, 0, 0, ALL, ALL, ALL);
        x.open(3456);
        x.firesNext(0, 12, 12, 12);
        x.firesNext(1, 12, 12, 12);
        x.open(3454);
    }

    private static void firstRuleNone() {
        Due.part("promise 13, \"-1 if there is none\"");
        Run x = new Run();
        x.firstRule(-1);
        x.make(0, 0, 1);
        x.firstRule(-1);
        x.condition(ALL, 0, 1);
        x.firstRule(-1);
        x.rule(0, 0);
        x.firstRule(0);
        x.fire(0);
        x.firstRule(-1);
        x.make(1, 0, 2);
        x.firstRule(-1);
        x.make(0, 0, 3);
        x.firstRule(0);
        x.remove(3, 2);
        x.firstRule(-1);
        x.make(0, 0, 4);
        x.clearRules(1);
        x.firstRule(-1);
    }

    private static void firstRuleOnlyOneOpen() {
        Due.part("promise 13, one open match");
        for (int rule = 0; rule < 5; rule++) {
            Run x = new Run();
            for (int i = 0; i < 5; i++) {
                x.addRule(i, 0, 0, Due.pattern(3, i, i, i));
            }
            x.make(3, Due.fields(rule, rule, rule), 1);
            x.firstRule(rule);
            x.firstTag(0, 1);
            x.firstTag(1, -2);
        }
    }

    private static void firstRuleOfTheLastRule() {
        Due.part("promise 13, the greater tag before the lesser number");
        Run x = Run.withElements(0, 11);
        for (int rule = 0; rule < 4; rule++) {
            x.addRule(rule, 0, 0, ALL, ALL);
        }
        x.addRule(4, 0, 0, ALL_1);
        x.make(1, 0, 12);
        x.firesNext(4, 12);
        x.firesNext(0, 11, 11);
        x.remove(12, 11);
        x.make(1, 0, 13);
        x.firesNext(4, 13);
    }

    private static void firstRuleSkipsFired() {
        Due.part("promise 13, fired ones");
        Run x = Run.withElements(0, 1);
        for (int rule = 0; rule < 5; rule++) {
            x.addRule(rule, 0, 0, ALL);
        }
        for (int rule = 0; rule < 5; rule++) {
            x.firesNext(rule, 1);
        }
        x.firstRule(-1);
    }

    private static void firstTagNone() {
        Due.part("promise 14, \"-1 if there is none\"");
        Run x = new Run();
        x.firstTag(0, -1);
        x.make(0, 0, 1);
        x.firstTag(0, -1);
        x.condition(ALL, 0, 1);
        x.firstTag(0, -1);
        x.rule(1, 0);
        x.firstTag(0, 1);
        x.fire(0);
        x.firstTag(0, -1);
        x.make(0, 0, 2);
        x.firstTag(0, 2);
        x.clearRules(1);
        x.firstTag(0, -1);
    }

    private static void firstTagNoSuchCondition() {
        Due.part("promise 14, \"-2 if its rule has no such condition\"");
        for (int positives = 1; positives <= 3; positives++) {
            Run x = new Run();
            for (int i = 0; i < positives; i++) {
                x.make(i, 0, i + 1);
                x.condition(Due.all(i), 0, i + 1);
            }
            x.rule(0, 0);
            x.firstTag(MIN, -2);
            x.firstTag(-1, -2);
            for (int k = 0; k < positives; k++) {
                x.firstTag(k, k + 1);
            }
            x.firstTag(positives, -2);
            x.firstTag(3, -2);
            x.firstTag(4, -2);
            x.firstTag(MAX, -2);
            for (int wrap : Due.WRAPS) {
                x.firstTag(wrap, -2);
            }
            x.firstTag(256, -2);
        }
    }

    private static void firstTagNoneBeforeNoSuchCondition() {
        Due.part("promise 14, -1 and -2 in this order");
        Run x = Run.withElements(0, 1);
        int[] wrong = {MIN, -1, 1, 3, MAX};
        for (int k : wrong) {
            x.firstTag(k, -1);
        }
        x.addRule(0, 0, 0, ALL);
        for (int k : wrong) {
            x.firstTag(k, -2);
        }
        x.fire(0);
        for (int k : wrong) {
            x.firstTag(k, -1);
        }
    }

    private static void firstTagCountsPositiveOnes() {
        Due.part("promise 14, \"the k-th positive condition (0 for the first)\"");
        Run x = Run.withElements(0, 1);
        x.make(1, 0, 2);
        x.addRule(0, 0, 2, ALL, Due.all(2), ALL_1);
        x.firstTag(0, 1);
        x.firstTag(1, 2);
        x.firstTag(2, -2);
        x.clearRules(1);
        x.addRule(0, 0, 4, ALL_1, ALL, Due.all(2));
        x.firstTag(0, 2);
        x.firstTag(1, 1);
        x.firstTag(2, -2);
        x.clearRules(1);
        x.addRule(0, 0, 6, ALL, Due.all(2), Due.all(3));
        x.firstTag(0, 1);
        x.firstTag(1, -2);
        x.firstTag(2, -2);
    }

    private static void firstTagOfItsOwnRule() {
        Due.part("promise 14, \"its rule\"");
        Run x = new Run();
        x.make(2, 0, 1);
        x.make(0, 0, 2);
        x.make(1, 0, 3);
        // The first match's rule has one condition, the others' rules have more and less.
        x.addRule(0, 0, 0, Due.all(2), ALL, ALL);
        x.addRule(1, 0, 0, ALL_1);
        x.addRule(2, 0, 0, ALL);
        x.firesNext(1, 3);
        x.firesNext(0, 1, 2, 2);
        x.firesNext(2, 2);
        x.firstTag(0, -1);
    }
}
