/** "Terms": a test for each sentence there that names a boundary case. */
public final class TermsEdgeTest {
    private static final int ANY = Due.ANY;
    private static final int X = Due.X;
    private static final int Y = Due.Y;
    private static final int Z = Due.Z;
    private static final int ALL = Due.all(0);
    private static final int ALL_1 = Due.all(1);

    public static void main(String[] args) {
        atMostTwelveElements();
        tagsInTheOrderOfMaking();
        tagsNeverUsedAgain();
        tagsNeverUsedAgainWhenAllIsGone();
        typesOfElements();
        typesOfPatterns();
        fieldsOfElements();
        entriesOfPatterns();
        entriesInTheirPlaces();
        patternNumbers();
        atMostFiveRules();
        rulesNumberedInTheirOrder();
        oneToThreeConditions();
        firstConditionPositive();
        sameElementForSeveralConditions();
        sameVariableWithoutAValue();
        sameVariableWithAValue();
        zeroIsAValue();
        extendedByEachElement();
        negativeFindsAnyElement();
        negativeLeavesTheAssignment();
        negativeLeavesAlmostFittingAside();
        firedIsNotOpen();
        firedStaysSo();
        sameMatchByRuleAndTags();
        greaterTagFirst();
        fallingOrderNotConditions();
        longerRowFirst();
        lesserRuleFirst();
        sameRuleGreaterTagFirst();
        sameRuleThreeTags();
        actionNothing();
        actionRemoves();
        actionMakesZeroForAnything();
        actionMakesZeroWithoutAValue();
        actionMakesAfterAllConditions();
        testsInTheOrderNamed();
        Due.end();
    }

    private static void atMostTwelveElements() {
        Due.part("Terms, \"at most 12 ELEMENTS\"");
        Run x = Run.withElements(0, 11);
        x.elements(11);
        x.make(3, 4095, 12);
        x.make(0, 0, -3);
        x.elements(12);
        x.remove(1, 11);
        x.make(0, 0, 13);
        x.make(0, 0, -3);
        x.addRule(0, Due.making(0, 1, 1, 1), 0, ALL);
        x.fire(0);
        x.elements(12);
    }

    private static void tagsInTheOrderOfMaking() {
        Due.part("Terms, \"tags are 1, 2, 3, ..\"");
        Run x = new Run();
        x.make(4, 0, -1);
        x.make(0, 4096, -2);
        x.make(2, 0, 1);
        x.make(-1, 0, -1);
        x.addRule(0, Due.making(1, 0, 0, 0), 0, Due.all(2));
        x.fire(0);
        x.exists(2, 1);
        x.contents(2, 4096);
        x.make(0, 0, 3);
    }

    private static void tagsNeverUsedAgain() {
        Due.part("Terms, \"never used again\"");
        Run x = Run.withElements(0, 2);
        x.remove(2, 1);
        x.make(0, 0, 3);
        x.remove(1, 1);
        x.remove(3, 0);
        x.make(0, 0, 4);
        x.addRule(0, 1, 0, ALL);
        x.fire(0);
        x.make(0, 0, 5);
        x.clearRules(1);
        x.make(0, 0, 6);
        x.exists(4, 0);
        for (int tag = 7; tag <= 15; tag++) {
            x.make(0, 0, tag);
        }
        x.make(0, 0, 16);
        x.make(0, 0, -3);
        x.make(0, 0, -3);
        x.remove(16, 11);
        x.make(0, 0, 17);
        x.exists(16, 0);
    }

    private static void tagsNeverUsedAgainWhenAllIsGone() {
        Due.part("Terms, \"never used again\", when no element and no rule is left");
        Run x = Run.withElements(0, 2);
        x.addRule(0, 1, 0, ALL);
        x.run(30, 2);
        x.elements(0);
        x.clearRules(1);
        x.make(0, 0, 3);
        x.remove(3, 0);
        x.clearRules(0);
        x.make(0, 0, 4);
    }

    private static void typesOfElements() {
        Due.part("Terms, \"a TYPE 0 .. 3\"");
        Run x = new Run();
        x.make(-1, 0, -1);
        x.make(0, 0, 1);
        x.make(3, 0, 2);
        x.make(4, 0, -1);
        x.contents(1, 0);
        x.contents(2, 12288);
        for (int far : Due.FAR) {
            x.make(far, 0, -1);
        }
        for (int wrap : Due.WRAPS) {
            x.make(wrap, 0, -1);
            x.make(3 + wrap, 0, -1);
        }
        x.make(256, 0, -1);
        x.elements(2);
    }

    private static void typesOfPatterns() {
        Due.part("Terms, \"8000 * type\"");
        Run x = new Run();
        for (int type = 0; type < 4; type++) {
            x.make(type, 0, 2 * type + 1);
            x.make(type, Due.fields(15, 15, 15), 2 * type + 2);
        }
        for (int type = 0; type < 4; type++) {
            // The least and the greatest pattern of the type: all fields 0, and all fields the same.
            x.fitting(8000 * type, 1);
            x.fitting(8000 * type + 7999, 2);
        }
        x.fitting(32000, -1);
        x.addRule(0, 0, 0, 7999, 8000);
        x.firesNext(0, 2, 3);
        x.firesNext(0, 1, 3);
        x.fire(-1);
    }

    private static void fieldsOfElements() {
        Due.part("Terms, \"three FIELDS f0, f1, f2, each 0 .. 15\"");
        Run x = new Run();
        int[] made = {0, 15, 16, 240, 256, 3840, 4095};
        for (int i = 0; i < made.length; i++) {
            x.make(1, made[i], i + 1);
            x.contents(i + 1, 4096 + made[i]);
        }
        x.fitting(Due.pattern(1, 0, 0, 0), 1);
        x.fitting(Due.pattern(1, 0, 0, 15), 1);
        x.fitting(Due.pattern(1, 0, 1, 0), 1);
        x.fitting(Due.pattern(1, 0, 15, 0), 1);
        x.fitting(Due.pattern(1, 1, 0, 0), 1);
        x.fitting(Due.pattern(1, 15, 0, 0), 1);
        x.fitting(Due.pattern(1, 15, 15, 15), 1);
        x.fitting(Due.pattern(1, 0, ANY, ANY), 4);
        x.fitting(Due.pattern(1, ANY, 0, ANY), 4);
        x.fitting(Due.pattern(1, ANY, ANY, 0), 5);
    }

    private static void entriesOfPatterns() {
        Due.part("Terms, \"an ENTRY 0 .. 19\"");
        Run x = new Run();
        x.make(0, Due.fields(15, 15, 15), 1);
        x.make(0, Due.fields(0, 0, 0), 2);
        x.make(0, Due.fields(14, 15, 0), 3);
        int[][] places = {{400, 16 * 20 + 16}, {20, 16 * 400 + 16}, {1, 16 * 400 + 16 * 20}};
        int[] with15 = {1, 2, 1};
        int[] with14 = {1, 0, 0};
        int[] with0 = {1, 1, 2};
        for (int f = 0; f < 3; f++) {
            int weight = places[f][0];
            int others = places[f][1];
            x.fitting(others, with0[f]);
            x.fitting(others + 14 * weight, with14[f]);
            x.fitting(others + 15 * weight, with15[f]);
            for (int entry = 16; entry <= 19; entry++) {
                x.fitting(others + entry * weight, 3);
            }
        }
    }

    private static void entriesInTheirPlaces() {
        Due.part("Terms, \"400 * (entry of f0) + 20 * (entry of f1) + (entry of f2)\"");
        Run x = new Run();
        x.make(0, Due.fields(0, 0, 3), 1);
        x.make(0, Due.fields(0, 1, 0), 2);
        x.make(0, Due.fields(1, 0, 0), 3);
        x.make(0, Due.fields(0, 2, 2), 4);
        x.fitting(3, 1);
        // One more than the greatest entry is the next place's 1: 19 + 1, and 399 + 1.
        x.fitting(19, 1);
        x.fitting(20, 1);
        x.fitting(399, 1);
        x.fitting(400, 1);
        x.addRule(0, 0, 0, 19);
        x.addRule(1, 0, 0, 20);
        x.addRule(2, 0, 0, 399);
        x.addRule(3, 0, 0, 400);
        x.firesNext(2, 4);
        x.firesNext(3, 3);
        x.firesNext(1, 2);
        x.firesNext(0, 1);
        x.fire(-1);
    }

    private static void patternNumbers() {
        Due.part("Terms, \"0 .. 31999\"");
        Run x = new Run();
        x.make(0, 0, 1);
        x.make(3, Due.fields(9, 9, 9), 2);
        x.fitting(-1, -1);
        x.fitting(0, 1);
        x.fitting(31999, 1);
        x.fitting(32000, -1);
        x.condition(-1, 0, -1);
        x.condition(32000, 0, -1);
        x.condition(0, 0, 1);
        x.condition(31999, 0, 2);
        x.rule(0, 0);
        x.firesNext(0, 1, 2);
    }

    private static void atMostFiveRules() {
        Due.part("Terms, \"There are at most 5 rules\"");
        Run x = Run.withElements(0, 1);
        for (int rule = 0; rule < 5; rule++) {
            x.rules(rule);
            x.addRule(rule, 0, 0, ALL);
        }
        x.addRule(-4, 0, 0, ALL);
        x.rules(5);
        x.open(5);
        x.clearRules(5);
        x.addRule(0, 0, 0, ALL);
    }

    private static void rulesNumberedInTheirOrder() {
        Due.part("Terms, \"numbered 0, 1, 2, .. in their order\"");
        Run x = new Run();
        for (int rule = 0; rule < 5; rule++) {
            x.addRule(rule, 0, 0, Due.pattern(0, rule, ANY, ANY));
        }
        for (int rule = 0; rule < 5; rule++) {
            x.make(0, Due.fields(rule, 0, 0), rule + 1);
            x.firesNext(rule, rule + 1);
        }
    }

    private static void oneToThreeConditions() {
        Due.part("Terms, \"one to three CONDITIONS\"");
        Run x = Run.withElements(0, 2);
        x.rule(0, -1);
        x.addRule(0, 0, 0, ALL);
        x.addRule(1, 0, 0, ALL, ALL);
        x.condition(ALL, 0, 1);
        x.condition(ALL, 0, 2);
        x.condition(ALL, 0, 3);
        x.condition(ALL, 0, -2);
        x.rule(0, 2);
        x.addRule(3, 0, 6, ALL, ALL_1, ALL_1);
        x.matches(0, 2);
        x.matches(1, 4);
        x.matches(2, 8);
        x.matches(3, 2);
    }

    private static void firstConditionPositive() {
        Due.part("Terms, \"the first one is positive\"");
        Run x = Run.withElements(0, 1);
        x.condition(ALL_1, 1, -3);
        x.condition(ALL, 0, 1);
        x.condition(ALL_1, 1, 2);
        x.rule(1, 0);
        x.condition(ALL_1, 1, -3);
        x.matches(0, 1);
    }

    private static void sameElementForSeveralConditions() {
        Due.part("Terms, \"perhaps the same element for several\"");
        Run x = Run.withElements(0, 1);
        x.addRule(0, 0, 0, ALL, ALL, ALL);
        x.addRule(1, 0, 0, Due.pattern(0, X, Y, Z), Due.pattern(0, Z, Y, X));
        x.matches(0, 1);
        x.matches(1, 1);
        x.firesNext(0, 1, 1, 1);
        x.firesNext(1, 1, 1);
        x.make(0, 0, 2);
        x.matches(0, 8);
        x.matches(1, 4);
    }

    private static void sameVariableWithoutAValue() {
        Due.part("Terms, \"fields of the same variable without a value must be the same\"");
        int[][] rows = {{0, 0, 0}, {15, 15, 15}, {0, 0, 15}, {0, 15, 0}, {15, 0, 0}, {1, 2, 3}};
        Run x = new Run();
        for (int i = 0; i < rows.length; i++) {
            x.make(2, Due.fields(rows[i][0], rows[i][1], rows[i][2]), i + 1);
        }
        for (int v = X; v <= Z; v++) {
            x.fitting(Due.pattern(2, v, v, ANY), 3);
            x.fitting(Due.pattern(2, v, ANY, v), 3);
            x.fitting(Due.pattern(2, ANY, v, v), 3);
            x.fitting(Due.pattern(2, v, v, v), 2);
        }
        x.fitting(Due.pattern(2, X, Y, Z), 6);
        x.fitting(Due.pattern(2, X, X, Y), 3);
        x.addRule(0, 0, 0, Due.pattern(2, X, Y, X));
        x.matches(0, 3);
    }

    private static void sameVariableWithAValue() {
        Due.part("Terms, \"for a variable that has a value, that value\"");
        Run x = new Run();
        x.make(0, Due.fields(5, 0, 0), 1);
        x.make(1, Due.fields(5, 5, 6), 2);
        x.make(1, Due.fields(6, 6, 6), 3);
        x.make(1, Due.fields(6, 5, 5), 4);
        int binds = Due.pattern(0, X, ANY, ANY);
        x.addRule(0, 0, 0, binds, Due.pattern(1, X, ANY, ANY));
        x.addRule(1, 0, 0, binds, Due.pattern(1, ANY, X, X));
        x.addRule(2, 0, 0, binds, Due.pattern(1, X, X, Y));
        x.addRule(3, 0, 0, binds, Due.pattern(1, X, X, X));
        x.addRule(4, 0, 0, binds, Due.pattern(1, Y, Y, Y));
        int[] due = {1, 1, 1, 0, 1};
        for (int rule = 0; rule < 5; rule++) {
            x.matches(rule, due[rule]);
        }
    }

    private static void zeroIsAValue() {
        Due.part("Terms, \"values 0 .. 15\"");
        for (int value = 0; value <= 15; value += 15) {
            Run x = new Run();
            x.make(0, Due.fields(value, 0, 0), 1);
            x.make(1, Due.fields(15 - value, 7, 7), 2);
            x.make(1, Due.fields(value, 7, 7), 3);
            x.addRule(0, 0, 0, Due.pattern(0, X, ANY, ANY), Due.pattern(1, X, ANY, ANY));
            x.matches(0, 1);
            x.firesNext(0, 1, 3);
        }
    }

    private static void extendedByEachElement() {
        Due.part("Terms, \"the assignment EXTENDED by the element\"");
        Run x = new Run();
        x.make(0, Due.fields(1, 2, 3), 1);
        x.make(1, Due.fields(3, 2, 1), 2);
        x.make(1, Due.fields(1, 2, 3), 3);
        x.addRule(0, 0, 0, Due.pattern(0, X, Y, Z), Due.pattern(1, Z, Y, X));
        x.addRule(1, 0, 0, Due.pattern(0, X, ANY, ANY), Due.pattern(1, Y, ANY, X), Due.pattern(0, X, ANY, Y));
        x.matches(0, 1);
        x.matches(1, 1);
        x.firesNext(1, 1, 2, 1);
        x.firesNext(0, 1, 2);
    }

    private static void negativeFindsAnyElement() {
        Due.part("Terms, \"at a negative condition, no element fits\"");
        Run x = Run.withElements(0, 1);
        x.addRule(0, 0, 2, ALL, ALL_1);
        x.addRule(1, 0, 2, ALL, ALL);
        x.matches(0, 1);
        x.matches(1, 0);
        for (int tag = 2; tag <= 12; tag++) {
            x.make(2, 0, tag);
        }
        x.matches(0, 1);
        x.remove(12, 11);
        x.make(1, 0, 13);
        x.matches(0, 0);
        x.remove(13, 11);
        x.matches(0, 1);
    }

    private static void negativeLeavesTheAssignment() {
        Due.part("Terms, \"(which stays)\"");
        Run x = new Run();
        x.make(0, Due.fields(1, 0, 0), 1);
        x.make(1, Due.fields(2, 9, 9), 2);
        x.make(2, Due.fields(3, 9, 9), 3);
        // No element fits the negative one, whichever of them was looked at last.
        int absent = Due.pattern(1, Y, 0, ANY);
        x.addRule(0, 0, 2, ALL, absent, Due.pattern(2, Y, ANY, ANY));
        x.addRule(1, 0, 6, ALL, absent, Due.pattern(2, Y, ANY, ANY));
        x.addRule(2, Due.making(3, Y, Y, Y), 2, ALL, absent);
        x.matches(0, 1);
        x.matches(1, 0);
        x.firesNext(0, 1, 3);
        x.firesNext(2, 1);
        x.contents(4, 12288);
    }

    private static void negativeLeavesAlmostFittingAside() {
        Due.part("Terms, \"(which stays)\", an element that fits but for one thing");
        int[][] almost = {{3, Y, ANY, ANY}, {3, ANY, Y, ANY}, {3, ANY, ANY, Y}, {1, Y, 0, ANY}, {1, Y, ANY, 0},
            {1, 0, Y, ANY}, {1, ANY, Y, 0}, {1, 0, ANY, Y}, {1, ANY, 0, Y}, {1, Y, Y, Y}, {1, Z, Y, Z}, {1, X, Y, Z}};
        for (int[] absent : almost) {
            Run x = new Run();
            x.make(0, Due.fields(1, 0, 0), 1);
            x.make(2, Due.fields(8, 8, 8), 2);
            // Looked at last, or first, by the negative condition.
            x.make(1, Due.fields(7, 6, 5), 3);
            int first = Due.pattern(0, X, ANY, ANY);
            int negative = Due.pattern(absent[0], absent[1], absent[2], absent[3]);
            x.addRule(0, Due.making(3, X, Y, Z), 2, first, negative);
            x.addRule(1, 0, 2, first, negative, Due.pattern(2, Y, Y, Z));
            x.addRule(2, 0, 6, first, negative, Due.pattern(2, Y, Z, Z));
            x.matches(1, 1);
            x.matches(2, 0);
            x.firesNext(1, 1, 2);
            x.firesNext(0, 1);
            x.contents(4, 12288 + Due.fields(1, 0, 0));
        }
    }

    private static void firedIsNotOpen() {
        Due.part("Terms, \"A match that has FIRED is not OPEN; all others are open\"");
        Run x = Run.withElements(0, 2);
        x.addRule(0, 0, 0, ALL);
        x.open(2);
        x.fire(0);
        x.open(1);
        x.matches(0, 2);
        x.fire(0);
        x.open(0);
        x.matches(0, 2);
        x.fire(-1);
    }

    private static void firedStaysSo() {
        Due.part("Terms, \"A match that has FIRED is not OPEN\", when others have gone");
        Run x = Run.withElements(0, 3);
        x.make(1, 0, 4);
        x.make(2, 0, 5);
        x.addRule(0, 0, 0, ALL_1);
        x.addRule(1, 0, 0, Due.all(2), ALL);
        x.addRule(2, 0, 0, ALL);
        x.run(30, 7);
        x.open(0);
        x.remove(5, 4);
        x.open(0);
        x.remove(4, 3);
        x.open(0);
        x.remove(1, 2);
        x.open(0);
        x.matches(2, 2);
        x.make(2, 0, 6);
        x.open(2);
        x.firesNext(1, 6, 3);
        x.firesNext(1, 6, 2);
        x.fire(-1);
    }

    private static void sameMatchByRuleAndTags() {
        Due.part("Terms, \"A match is the same match as long as\"");
        Run x = Run.withElements(0, 2);
        x.addRule(0, 0, 6, ALL, ALL_1, Due.all(2));
        x.fire(0);
        // Held back and let go again: the rule and the tags are still the same.
        x.make(1, 0, 3);
        x.matches(0, 0);
        x.remove(3, 2);
        x.open(1);
        x.addRule(1, 0, 0, ALL);
        x.open(3);
        // The same contents under another tag, and the same tags in another order, are other matches.
        x.remove(2, 1);
        x.make(0, 0, 4);
        x.open(4);
        x.addRule(2, 0, 0, ALL, ALL);
        x.firesNext(2, 4, 4);
        x.firesNext(2, 4, 1);
        x.firesNext(2, 1, 4);
        x.firesNext(0, 4);
        x.firesNext(1, 4);
        x.firesNext(2, 1, 1);
        x.firesNext(0, 1);
        x.firesNext(1, 1);
        x.fire(-1);
    }

    private static void greaterTagFirst() {
        Due.part("Terms, \"the match with the greater tag there comes first\"");
        Run x = new Run();
        x.addRule(0, 0, 0, ALL);
        x.addRule(1, 0, 0, ALL_1);
        x.addRule(2, 0, 0, ALL, ALL_1);
        x.make(0, 0, 1);
        x.make(1, 0, 2);
        x.make(0, 0, 3);
        x.firesNext(2, 3, 2);
        x.firesNext(0, 3);
        x.firesNext(2, 1, 2);
        x.firesNext(1, 2);
        x.firesNext(0, 1);
        x.fire(-1);
    }

    private static void fallingOrderNotConditions() {
        Due.part("Terms, \"the tags of each are put in falling order\"");
        Run x = new Run();
        x.make(1, 0, 1);
        x.make(2, 0, 2);
        x.make(3, 0, 3);
        x.make(0, 0, 4);
        // 2, 4 in the order of its conditions, but 4, 2 in falling order.
        x.addRule(0, 0, 0, Due.all(3), Due.all(2), ALL_1);
        x.addRule(1, 0, 0, Due.all(2), ALL);
        x.addRule(2, 0, 0, ALL_1, ALL, ALL_1);
        x.firesNext(1, 2, 4);
        x.firesNext(2, 1, 4, 1);
        x.firesNext(0, 3, 2, 1);
    }

    private static void longerRowFirst() {
        Due.part("Terms, \"if one row is the beginning of the other, the longer one comes first\"");
        Run x = new Run();
        x.addRule(0, 0, 0, ALL_1);
        x.addRule(1, 0, 0, ALL_1, ALL_1);
        x.addRule(2, 0, 0, ALL_1, ALL_1, ALL_1);
        // Longer by its conditions, but not by its row.
        x.addRule(3, 0, 6, ALL_1, Due.all(2), Due.all(3));
        x.make(1, 0, 1);
        x.firesNext(2, 1, 1, 1);
        x.firesNext(1, 1, 1);
        x.firesNext(0, 1);
        x.firesNext(3, 1);
        x.clearRules(4);
        x.make(0, 0, 2);
        x.addRule(0, 0, 0, ALL);
        x.addRule(1, 0, 0, ALL_1, ALL);
        x.addRule(2, 0, 0, ALL_1, ALL, ALL_1);
        x.firesNext(2, 1, 2, 1);
        x.firesNext(1, 1, 2);
        x.firesNext(0, 2);
    }

    private static void lesserRuleFirst() {
        Due.part("Terms, \"if the rows are the same, the match of the rule with the lesser number comes first\"");
        Run x = Run.withElements(0, 1);
        x.make(1, 0, 2);
        // The same row in falling order, whatever the order of the conditions.
        x.addRule(0, 0, 0, ALL, ALL_1);
        x.addRule(1, 0, 0, ALL_1, ALL);
        x.addRule(2, 0, 0, ALL, ALL_1);
        for (int rule = 3; rule < 5; rule++) {
            x.addRule(rule, 0, 0, ALL_1, ALL);
        }
        x.firesNext(0, 1, 2);
        x.firesNext(1, 2, 1);
        x.firesNext(2, 1, 2);
        x.firesNext(3, 2, 1);
        x.firesNext(4, 2, 1);
        x.fire(-1);
    }

    private static void sameRuleGreaterTagFirst() {
        Due.part("Terms, \"for the same rule, the match whose tags, in the order of the conditions\"");
        Run x = Run.withElements(0, 3);
        x.remove(2, 2);
        x.addRule(0, 0, 0, ALL, ALL, ALL);
        int[][] rows = {{3, 3, 3}, {3, 3, 1}, {3, 1, 3}, {1, 3, 3}, {3, 1, 1}, {1, 3, 1}, {1, 1, 3}, {1, 1, 1}};
        for (int[] row : rows) {
            x.firesNext(0, row);
        }
        x.fire(-1);
    }

    private static void sameRuleThreeTags() {
        Due.part("Terms, \"the greater tag at the first difference\"");
        // A digit is a tag.
        int[] rows = {444, 443, 434, 344, 442, 424, 244, 433, 343, 334, 432, 423, 342, 324, 243, 234, 422, 242, 224,
            333, 332, 323, 233, 322, 232, 223, 222};
        Run x = Run.withElements(0, 4);
        x.remove(1, 3);
        x.addRule(0, 0, 0, ALL, ALL, ALL);
        for (int row : rows) {
            x.firesNext(0, row / 100, row / 10 % 10, row % 10);
        }
        x.fire(-1);
    }

    private static void actionNothing() {
        Due.part("Terms, \"NOTHING 0\"");
        Run x = Run.withElements(0, 1);
        x.addRule(0, 0, 0, ALL);
        x.fire(0);
        x.elements(1);
        x.contents(1, 0);
        x.make(0, 0, 2);
    }

    private static void actionRemoves() {
        Due.part("Terms, \"remove the element of the first, second or third positive condition\"");
        for (int action = 1; action <= 3; action++) {
            Run x = new Run();
            x.make(2, 0, 1);
            x.make(0, 0, 2);
            x.make(1, 0, 3);
            x.addRule(0, action, 0, ALL, ALL_1, Due.all(2));
            x.fire(0);
            x.elements(2);
            x.exists(2, action == 1 ? 0 : 1);
            x.exists(3, action == 2 ? 0 : 1);
            x.exists(1, action == 3 ? 0 : 1);
        }
        Run x = Run.withElements(0, 1);
        x.make(1, 0, 2);
        x.addRule(0, 2, 2, ALL, Due.all(2), ALL_1);
        x.fire(0);
        x.exists(1, 1);
        x.exists(2, 0);
        x.clearRules(1);
        // The one element of all three conditions is removed once.
        x.addRule(0, 3, 0, ALL, ALL, ALL);
        x.fire(0);
        x.elements(0);
        x.fire(-1);
    }

    private static void actionMakesZeroForAnything() {
        Due.part("Terms, \"0 for entry 16\"");
        Run x = new Run();
        x.make(0, Due.fields(15, 15, 15), 1);
        x.addRule(0, Due.making(1, ANY, 15, 15), 0, Due.pattern(0, X, Y, Z));
        x.addRule(1, Due.making(1, 15, ANY, 15), 0, Due.pattern(0, X, Y, Z));
        x.addRule(2, Due.making(1, 15, 15, ANY), 0, Due.pattern(0, X, Y, Z));
        x.addRule(3, Due.making(3, ANY, ANY, ANY), 0, Due.pattern(0, X, Y, Z));
        x.run(4, 4);
        x.contents(2, 4096 + Due.fields(0, 15, 15));
        x.contents(3, 4096 + Due.fields(15, 0, 15));
        x.contents(4, 4096 + Due.fields(15, 15, 0));
        x.contents(5, 12288);
    }

    private static void actionMakesZeroWithoutAValue() {
        Due.part("Terms, \"0 if it has none\"");
        Run x = new Run();
        x.make(0, Due.fields(15, 14, 13), 1);
        x.addRule(0, Due.making(1, X, Y, Z), 0, ALL);
        x.addRule(1, Due.making(1, X, Y, Z), 0, Due.pattern(0, X, ANY, ANY));
        x.addRule(2, Due.making(1, X, Y, Z), 0, Due.pattern(0, ANY, Y, ANY));
        x.addRule(3, Due.making(1, X, Y, Z), 0, Due.pattern(0, ANY, ANY, Z));
        x.addRule(4, Due.making(1, X, Y, Z), 0, Due.pattern(0, Z, Y, X));
        x.run(30, 5);
        x.contents(2, 4096);
        x.contents(3, 4096 + Due.fields(15, 0, 0));
        x.contents(4, 4096 + Due.fields(0, 14, 0));
        x.contents(5, 4096 + Due.fields(0, 0, 13));
        x.contents(6, 4096 + Due.fields(13, 14, 15));
    }

    private static void actionMakesAfterAllConditions() {
        Due.part("Terms, \"its value under the assignment after all conditions\"");
        Run x = new Run();
        x.make(0, Due.fields(1, 0, 0), 1);
        x.make(1, Due.fields(1, 2, 0), 2);
        x.make(2, Due.fields(1, 2, 15), 3);
        x.addRule(0, Due.making(3, X, Y, Z), 0, Due.pattern(0, X, ANY, ANY), Due.pattern(1, X, Y, ANY),
            Due.pattern(2, X, Y, Z));
        x.fire(0);
        x.contents(4, 12288 + Due.fields(1, 2, 15));
        // Of the match that fires, not of another one that was looked at before or after it.
        x.make(0, Due.fields(9, 0, 0), 5);
        x.make(0, Due.fields(8, 0, 0), 6);
        x.addRule(1, Due.making(3, X, X, Z), 0, Due.pattern(0, X, ANY, ANY));
        x.firesNext(1, 6);
        x.contents(7, 12288 + Due.fields(8, 8, 0));
        x.firesNext(1, 5);
        x.contents(8, 12288 + Due.fields(9, 9, 0));
    }

    private static void testsInTheOrderNamed() {
        Due.part("Terms, \"In every method the tests are made in the order named\"");
        Run x = Run.withElements(0, 12);
        x.make(4, 4096, -1);
        x.make(3, 4096, -2);
        x.make(3, 4095, -3);
        x.condition(32000, 1, -1);
        x.condition(ALL, 1, -3);
        x.rule(32004, -1);
        for (int rule = 0; rule < 5; rule++) {
            x.addRule(rule, 0, 0, ALL);
        }
        x.rule(3, -1);
        x.condition(ALL, 0, 1);
        x.rule(32004, -2);
        x.rule(3, -3);
        x.rule(1, -4);
        x.condition(ALL, 0, 2);
        x.condition(ALL, 0, 3);
        x.condition(32000, 1, -1);
        x.condition(ALL, 1, -2);
        x.run(31, -1);
        x.firstTag(3, -2);
        x.clearRules(5);
        x.firstTag(3, -1);
    }
}
