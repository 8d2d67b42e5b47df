/** Promises 1, 2, 3, 7, 9, 10 and 17: a test for each sentence that names a boundary case. */
public final class ElementEdgeTest {
    private static final int MIN = Integer.MIN_VALUE;
    private static final int MAX = Integer.MAX_VALUE;
    private static final int ANY = Due.ANY;
    private static final int X = Due.X;
    private static final int ALL = Due.all(0);

    public static void main(String[] args) {
        newHasNoElements();
        newHasNoRules();
        newIsApartFromOthers();
        makeType();
        makeFields();
        makeTwelve();
        makeInThisOrder();
        makeAnswersItsTag();
        removeNone();
        removeAnswersHowManyAreLeft();
        removeTakesTheOneElement();
        removeIsOnceOnly();
        elementsNoneAndAll();
        existsNoneAndAll();
        existsAnyInt();
        contentsNoneAndAll();
        contentsAnyInt();
        contentsLeastAndGreatest();
        fittingPattern();
        fittingNoneAndAll();
        fittingUnderTheEmptyAssignment();
        Due.end();
    }

    private static void newHasNoElements() {
        Due.part("promise 1, \"No elements\"");
        Run x = new Run();
        x.elements(0);
        x.exists(0, 0);
        x.exists(1, 0);
        x.contents(0, -1);
        x.contents(1, -1);
        for (int type = 0; type < 4; type++) {
            x.fitting(Due.all(type), 0);
        }
        x.remove(0, -1);
        x.remove(1, -1);
        x.make(0, 0, 1);
    }

    private static void newHasNoRules() {
        Due.part("promise 1, \"no rules\"");
        Run x = new Run();
        x.rules(0);
        x.matches(0, -1);
        x.open(0);
        x.firstRule(-1);
        x.firstTag(0, -1);
        x.fire(-1);
        x.run(1, 0);
        x.run(30, 0);
        x.rule(0, -1);
        x.condition(ALL, 1, -3);
        x.clearRules(0);
        x.addRule(0, 0, 0, ALL);
    }

    private static void newIsApartFromOthers() {
        Due.part("promise 1, after another object was used");
        Run used = Run.withElements(0, 12);
        used.addRule(0, 0, 0, ALL);
        used.condition(ALL, 0, 1);
        used.run(5, 5);
        Run x = new Run();
        x.elements(0);
        x.rules(0);
        x.rule(0, -1);
        x.make(0, 0, 1);
        x.addRule(0, 0, 0, ALL);
        x.open(1);
        used.elements(12);
        used.open(7);
        used.condition(ALL, 0, 2);
    }

    private static void makeType() {
        Due.part("promise 2, \"-1 if type is not in 0 .. 3\"");
        Run x = new Run();
        x.make(MIN, 0, -1);
        x.make(-1, 0, -1);
        x.make(0, 0, 1);
        x.make(3, 0, 2);
        x.make(4, 0, -1);
        x.make(MAX, 0, -1);
        for (int wrap : Due.WRAPS) {
            x.make(1 + wrap, 0, -1);
        }
        x.make(257, 0, -1);
        x.elements(2);
        x.make(1, 0, 3);
    }

    private static void makeFields() {
        Due.part("promise 2, \"-2 if fields is not in 0 .. 4095\"");
        Run x = new Run();
        x.make(0, MIN, -2);
        x.make(0, -1, -2);
        x.make(0, 0, 1);
        x.make(0, 4095, 2);
        x.make(0, 4096, -2);
        x.make(0, MAX, -2);
        for (int wrap : Due.WRAPS) {
            x.make(0, 1 + wrap, -2);
        }
        x.contents(1, 0);
        x.contents(2, 4095);
        x.elements(2);
    }

    private static void makeTwelve() {
        Due.part("promise 2, \"-3 if there are 12 elements\"");
        Run x = Run.withElements(1, 11);
        x.make(1, 0, 12);
        x.make(1, 0, -3);
        x.make(0, 4095, -3);
        x.remove(12, 11);
        x.make(1, 7, 13);
        x.make(1, 0, -3);
        x.contents(13, 4096 + 7);
    }

    private static void makeInThisOrder() {
        Due.part("promise 2, -1, -2 and -3 in this order");
        Run x = new Run();
        x.make(-1, -1, -1);
        x.make(4, 4096, -1);
        x.make(MIN, MAX, -1);
        x.make(3, 4096, -2);
        for (int tag = 1; tag <= 12; tag++) {
            x.make(0, 0, tag);
        }
        x.make(4, 4096, -1);
        x.make(-1, 0, -1);
        x.make(0, -1, -2);
        x.make(3, 4096, -2);
        x.make(3, 4095, -3);
    }

    private static void makeAnswersItsTag() {
        Due.part("promise 2, \"otherwise answers its tag\"");
        Run x = new Run();
        for (int tag = 1; tag <= 30; tag++) {
            x.make(tag % 4, tag, tag);
            x.contents(tag, 4096 * (tag % 4) + tag);
            x.remove(tag, 0);
        }
    }

    private static void removeNone() {
        Due.part("promise 3, \"-1 if there is none\"");
        Run x = new Run();
        x.remove(0, -1);
        x.remove(1, -1);
        x.make(0, 0, 1);
        x.make(0, 0, 2);
        x.remove(0, -1);
        x.remove(-1, -1);
        x.remove(3, -1);
        x.remove(MIN, -1);
        x.remove(MAX, -1);
        for (int wrap : Due.WRAPS) {
            x.remove(1 + wrap, -1);
        }
        x.remove(257, -1);
        x.elements(2);
        x.remove(2, 1);
        x.remove(2, -1);
        x.remove(1, 0);
        x.remove(1, -1);
        x.remove(0, -1);
    }

    private static void removeAnswersHowManyAreLeft() {
        Due.part("promise 3, \"how many elements are left\"");
        Run x = Run.withElements(0, 12);
        for (int tag = 1; tag <= 12; tag++) {
            x.remove(tag, 12 - tag);
        }
        x.elements(0);
        x.make(0, 0, 13);
        x.remove(13, 0);
    }

    private static void removeTakesTheOneElement() {
        Due.part("promise 3, \"Removes the element with this tag\"");
        int[] gone = {1, 6, 12};
        for (int tag : gone) {
            Run x = new Run();
            for (int i = 1; i <= 12; i++) {
                x.make(i % 4, 300 * i, i);
            }
            x.remove(tag, 11);
            for (int i = 1; i <= 12; i++) {
                x.exists(i, i == tag ? 0 : 1);
                x.contents(i, i == tag ? -1 : 4096 * (i % 4) + 300 * i);
            }
        }
    }

    private static void removeIsOnceOnly() {
        Due.part("promise 3, a tag that no element has any more");
        Run x = Run.withElements(0, 3);
        x.addRule(0, 1, 0, ALL);
        x.fire(0);
        x.remove(3, -1);
        x.remove(1, 1);
        x.remove(1, -1);
        x.make(0, 0, 4);
        x.remove(3, -1);
        x.remove(1, -1);
        x.elements(2);
    }

    private static void elementsNoneAndAll() {
        Due.part("promise 7, none and 12");
        Run x = new Run();
        x.elements(0);
        for (int i = 1; i <= 12; i++) {
            x.make(i % 4, 0, i);
            x.elements(i);
        }
        x.make(0, 0, -3);
        x.elements(12);
        x.remove(13, -1);
        x.elements(12);
        for (int i = 12; i >= 1; i--) {
            x.remove(i, i - 1);
            x.elements(i - 1);
        }
    }

    private static void existsNoneAndAll() {
        Due.part("promise 9, none and 12");
        Run x = new Run();
        x.exists(0, 0);
        x.exists(1, 0);
        for (int i = 1; i <= 12; i++) {
            x.make(0, 0, i);
            x.exists(i, 1);
            x.exists(i + 1, 0);
        }
        x.make(0, 0, -3);
        x.exists(13, 0);
        x.exists(1, 1);
        for (int i = 1; i <= 12; i++) {
            x.remove(i, 12 - i);
            x.exists(i, 0);
        }
        x.exists(0, 0);
        x.make(0, 0, 13);
        x.exists(13, 1);
        x.exists(1, 0);
    }

    private static void existsAnyInt() {
        Due.part("promise 9, any int");
        Run x = Run.withElements(0, 2);
        x.exists(MIN, 0);
        x.exists(-1, 0);
        x.exists(0, 0);
        x.exists(1, 1);
        x.exists(2, 1);
        x.exists(3, 0);
        x.exists(MAX, 0);
        for (int wrap : Due.WRAPS) {
            x.exists(1 + wrap, 0);
        }
        x.exists(257, 0);
    }

    private static void contentsNoneAndAll() {
        Due.part("promise 10, none and 12");
        Run x = new Run();
        x.contents(0, -1);
        x.contents(1, -1);
        for (int i = 1; i <= 12; i++) {
            x.make(i % 4, 341 * i, i);
            x.contents(i + 1, -1);
        }
        for (int i = 1; i <= 12; i++) {
            x.contents(i, 4096 * (i % 4) + 341 * i);
        }
        x.make(0, 0, -3);
        x.contents(13, -1);
        for (int i = 12; i >= 1; i--) {
            x.remove(i, i - 1);
            x.contents(i, -1);
        }
        x.contents(0, -1);
    }

    private static void contentsAnyInt() {
        Due.part("promise 10, any int");
        Run x = Run.withElements(0, 2);
        x.contents(MIN, -1);
        x.contents(-1, -1);
        x.contents(0, -1);
        x.contents(1, 0);
        x.contents(2, 0);
        x.contents(3, -1);
        x.contents(MAX, -1);
        for (int wrap : Due.WRAPS) {
            x.contents(1 + wrap, -1);
        }
        x.contents(257, -1);
    }

    private static void contentsLeastAndGreatest() {
        Due.part("promise 10, \"4096 * type + 256 * f0 + 16 * f1 + f2\"");
        Run x = new Run();
        x.make(0, 0, 1);
        x.make(0, 4095, 2);
        x.make(1, 0, 3);
        x.make(2, 4095, 4);
        x.make(3, 0, 5);
        x.make(3, 4095, 6);
        x.contents(1, 0);
        x.contents(2, 4095);
        x.contents(3, 4096);
        x.contents(4, 12287);
        x.contents(5, 12288);
        x.contents(6, 16383);
    }

    private static void fittingPattern() {
        Due.part("promise 17, \"-1 if pattern is not in 0 .. 31999\"");
        Run x = new Run();
        x.fitting(-1, -1);
        x.fitting(0, 0);
        x.fitting(31999, 0);
        x.fitting(32000, -1);
        x.make(0, 0, 1);
        x.make(3, 4095, 2);
        x.fitting(MIN, -1);
        x.fitting(-1, -1);
        x.fitting(0, 1);
        x.fitting(31999, 1);
        x.fitting(32000, -1);
        x.fitting(MAX, -1);
        for (int wrap : Due.WRAPS) {
            x.fitting(wrap, -1);
            x.fitting(31999 + wrap, -1);
        }
    }

    private static void fittingNoneAndAll() {
        Due.part("promise 17, none and 12");
        Run x = new Run();
        x.fitting(ALL, 0);
        for (int i = 1; i <= 12; i++) {
            x.make(0, i, i);
            x.fitting(ALL, i);
        }
        x.fitting(Due.pattern(0, 0, 0, ANY), 12);
        x.fitting(Due.pattern(0, 0, 0, 12), 1);
        x.fitting(Due.pattern(0, 0, 0, 13), 0);
        x.fitting(Due.all(1), 0);
        for (int i = 12; i >= 1; i--) {
            x.remove(i, i - 1);
            x.fitting(ALL, i - 1);
        }
    }

    private static void fittingUnderTheEmptyAssignment() {
        Due.part("promise 17, \"under the empty assignment\"");
        Run x = new Run();
        x.make(0, Due.fields(1, 2, 3), 1);
        x.make(0, Due.fields(4, 5, 6), 2);
        x.make(0, Due.fields(7, 7, 7), 3);
        int[] free = {Due.pattern(0, X, ANY, ANY), Due.pattern(0, ANY, Due.Y, ANY), Due.pattern(0, X, Due.Y, Due.Z)};
        int same = Due.pattern(0, X, X, ANY);
        x.addRule(0, 0, 0, Due.pattern(0, X, Due.Y, Due.Z));
        // Whatever was asked or done before, no variable has a value.
        for (int turn = 0; turn < 4; turn++) {
            for (int pattern : free) {
                x.fitting(pattern, 3);
                x.fitting(same, 1);
            }
            x.matches(0, 3);
            x.fitting(free[2], 3);
            x.open(3 - turn);
            x.fitting(free[2], 3);
            x.firstRule(turn < 3 ? 0 : -1);
            x.fitting(free[2], 3);
            x.fire(turn < 3 ? 0 : -1);
        }
    }
}
