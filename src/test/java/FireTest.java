/** Promises 15 and 16: firing, what the actions do, and running. */
public final class FireTest {
    private static final int ALL = Due.pattern(0, Due.ANY, Due.ANY, Due.ANY);
    private static final int ALL_1 = Due.pattern(1, Due.ANY, Due.ANY, Due.ANY);

    public static void main(String[] args) {
        fireNothing();
        fireRemoves();
        fireMakes();
        fireMakesWithTheMatchsOwnValues();
        fireMakesNoThirteenth();
        fireFortyTimes();
        fireFortyWhileHeldBack();
        fireWithoutEnd();
        runCount();
        runStops();
        runRefusedAtForty();
        Due.end();
    }

    private static void fireNothing() {
        Due.part("promise 15, nothing");
        RuleMatcher x = new RuleMatcher();
        Due.due("fire(), no rule", x.fire(), -1);
        Due.addRule(x, 0, 0, ALL_1);
        Due.addRule(x, 0, 0, ALL);
        Due.due("fire(), no match", x.fire(), -1);
        x.make(0, 5);
        x.make(0, 6);
        Due.due("fire()", x.fire(), 1);
        Due.due("elements()", x.elements(), 2);
        Due.due("contents(2)", x.contents(2), 6);
        Due.due("firstTag(0)", x.firstTag(0), 1);
        Due.due("fire()", x.fire(), 1);
        Due.due("fire(), none open", x.fire(), -1);
        Due.due("make", x.make(0, 0), 3);
    }

    private static void fireRemoves() {
        Due.part("promise 15, removing");
        int[] patterns = {ALL, ALL_1, Due.pattern(3, Due.ANY, Due.ANY, Due.ANY)};
        for (int action = 1; action <= 3; action++) {
            RuleMatcher x = new RuleMatcher();
            x.make(3, 0);
            x.make(0, 0);
            x.make(1, 0);
            int[] tags = {2, 3, 1};
            Due.addRule(x, action, 0, patterns);
            Due.due("fire()", x.fire(), 0);
            Due.due("elements()", x.elements(), 2);
            for (int i = 0; i < 3; i++) {
                Due.due("exists", x.exists(tags[i]), i + 1 == action ? 0 : 1);
            }
            Due.due("matches(0)", x.matches(0), 0);
        }
        RuleMatcher x = new RuleMatcher();
        x.make(0, 0);
        x.make(1, 0);
        Due.addRule(x, 2, 2, ALL, patterns[2], ALL_1);
        Due.due("fire(), the second positive one", x.fire(), 0);
        Due.due("exists(1)", x.exists(1), 1);
        Due.due("exists(2)", x.exists(2), 0);
    }

    private static void fireMakes() {
        Due.part("promise 15, making");
        RuleMatcher x = new RuleMatcher();
        x.make(0, Due.fields(7, 8, 9));
        Due.addRule(x, Due.making(1, 4, 15, 0), 0, Due.pattern(0, Due.X, Due.Y, Due.ANY));
        Due.addRule(x, Due.making(2, Due.ANY, Due.Y, Due.X), 0, Due.pattern(0, Due.X, Due.Y, Due.ANY));
        Due.addRule(x, Due.making(3, Due.Z, Due.X, Due.X), 0, Due.pattern(0, Due.X, Due.Y, Due.ANY));
        Due.addRule(x, 32003, 0, Due.pattern(0, Due.X, Due.Y, Due.Z));
        Due.addRule(x, 4, 0, Due.pattern(0, Due.X, Due.Y, Due.ANY));
        for (int rule = 0; rule < 5; rule++) {
            Due.due("fire()", x.fire(), rule);
            Due.due("elements()", x.elements(), rule + 2);
        }
        Due.due("values", x.contents(2), 4096 + Due.fields(4, 15, 0));
        Due.due("anything and variables", x.contents(3), 8192 + Due.fields(0, 8, 7));
        Due.due("a variable without a value", x.contents(4), 12288 + Due.fields(0, 7, 7));
        Due.due("the greatest action", x.contents(5), 12288 + Due.fields(9, 9, 9));
        Due.due("the least action that makes", x.contents(6), 0);
    }

    private static void fireMakesWithTheMatchsOwnValues() {
        Due.part("promise 15, the assignment");
        RuleMatcher x = new RuleMatcher();
        x.make(0, Due.fields(1, 2, 0));
        x.make(0, Due.fields(2, 5, 0));
        x.make(0, Due.fields(9, 9, 9));
        x.make(1, Due.fields(3, 3, 3));
        int step = Due.pattern(0, Due.X, Due.Y, 0);
        int next = Due.pattern(0, Due.Y, Due.Z, 0);
        int absent = Due.pattern(1, Due.X, Due.ANY, Due.ANY);
        Due.addRule(x, Due.making(2, Due.X, Due.Y, Due.Z), 4, step, next, absent);
        Due.due("fire()", x.fire(), 0);
        Due.due("after all conditions", x.contents(5), 8192 + Due.fields(1, 2, 5));
        Due.due("fire()", x.fire(), -1);
        x.clearRules();
        Due.addRule(x, Due.making(2, Due.X, Due.Y, Due.Z), 2, step, Due.pattern(1, Due.Z, 0, Due.ANY));
        Due.due("fire()", x.fire(), 0);
        Due.due("a negative one gives no value", x.contents(6), 8192 + Due.fields(2, 5, 0));
    }

    private static void fireMakesNoThirteenth() {
        Due.part("promise 15, no room");
        RuleMatcher x = Due.withElements(0, 11);
        Due.addRule(x, Due.making(1, 1, 1, 1), 0, ALL);
        Due.due("fire()", x.fire(), 0);
        Due.due("elements()", x.elements(), 12);
        Due.due("fire(), making left out", x.fire(), 0);
        Due.due("elements()", x.elements(), 12);
        Due.due("open(), it has fired all the same", x.open(), 9);
        Due.due("firstTag(0)", x.firstTag(0), 9);
        x.remove(1);
        Due.due("make, no tag was lost", x.make(0, 0), 13);
    }

    private static void fireFortyTimes() {
        Due.part("promise 15, forty");
        RuleMatcher x = Due.withElements(0, 12);
        Due.addRule(x, 0, 0, ALL, ALL);
        for (int i = 0; i < 40; i++) {
            Due.due("fire() " + i, x.fire(), 0);
        }
        Due.due("open()", x.open(), 104);
        Due.due("fire(), the 41st", x.fire(), -2);
        Due.due("open(), nothing changed", x.open(), 104);
        // Falling order: 12 gives 23 matches, then 11 gives 17 of its 21.
        Due.due("firstTag(0)", x.firstTag(0), 11);
        Due.due("firstTag(1)", x.firstTag(1), 2);
        x.remove(1);
        Due.due("open(), two of the fired had 1", x.open(), 121 - 38);
        Due.due("fire(), two of the forty count no more", x.fire(), 0);
        Due.due("fire(), two of the forty count no more", x.fire(), 0);
        Due.due("fire()", x.fire(), -2);
        x.remove(12);
        Due.due("run(30), 12's count no more", x.run(30), 21);
        Due.due("fire()", x.fire(), -2);
        Due.due("clearRules()", x.clearRules(), 1);
        Due.due("fire(), no rule", x.fire(), -1);
        Due.addRule(x, 0, 0, ALL, ALL);
        Due.due("fire(), forgotten by clearRules", x.fire(), 0);
    }

    private static void fireFortyWhileHeldBack() {
        Due.part("promise 15, forty held back");
        RuleMatcher x = Due.withElements(0, 7);
        Due.addRule(x, 0, 4, ALL, ALL, ALL_1);
        Due.due("run(30)", x.run(30), 30);
        Due.due("run(10)", x.run(10), 10);
        x.make(1, 0);
        Due.due("fire(), no open match comes before forty", x.fire(), -1);
        Due.addRule(x, 0, 0, ALL_1);
        Due.due("open()", x.open(), 1);
        Due.due("fire(), held back ones count", x.fire(), -2);
        Due.due("open()", x.open(), 1);
        x.remove(7);
        Due.due("fire()", x.fire(), 1);
    }

    private static void fireWithoutEnd() {
        Due.part("promise 15, fired and removed");
        RuleMatcher x = Due.withElements(0, 1);
        Due.addRule(x, Due.making(1, 0, 0, 0), 0, ALL);
        Due.addRule(x, 1, 0, ALL_1);
        Due.due("run(30)", x.run(30), 2);
        Due.due("elements()", x.elements(), 1);
        for (int i = 0; i < 60; i++) {
            Due.due("make", x.make(1, 0), i + 3);
            Due.due("fire(), a removed element's match counts no more", x.fire(), 1);
        }
        Due.due("elements()", x.elements(), 1);
        Due.due("open()", x.open(), 0);
    }

    private static void runCount() {
        Due.part("promise 16");
        RuleMatcher x = Due.withElements(0, 6);
        Due.addRule(x, 0, 0, ALL, ALL);
        Due.due("run(0)", x.run(0), -1);
        Due.due("run(-1)", x.run(-1), -1);
        Due.due("run(31)", x.run(31), -1);
        for (int far : Due.FAR) {
            Due.due("run(far)", x.run(far), -1);
        }
        Due.due("open(), nothing changed", x.open(), 36);
        Due.due("run(1)", x.run(1), 1);
        Due.due("open()", x.open(), 35);
        Due.due("firstTag(1)", x.firstTag(1), 5);
        Due.due("run(30)", x.run(30), 30);
        Due.due("open()", x.open(), 5);
        Due.due("run(30)", x.run(30), 5);
        Due.due("open()", x.open(), 0);
        Due.due("run(30)", x.run(30), 0);
    }

    private static void runStops() {
        Due.part("promise 16, as fire does");
        RuleMatcher x = Due.withElements(0, 3);
        Due.addRule(x, Due.making(1, 0, 0, 0), 0, ALL);
        Due.addRule(x, 1, 0, ALL_1);
        Due.due("run(3), each made one is removed first", x.run(3), 3);
        Due.due("elements()", x.elements(), 4);
        Due.due("exists(4)", x.exists(4), 0);
        Due.due("exists(5)", x.exists(5), 1);
        Due.due("run(30)", x.run(30), 3);
        Due.due("elements()", x.elements(), 3);
        Due.due("make", x.make(1, 0), 7);
        Due.due("run(1)", x.run(1), 1);
        Due.due("elements()", x.elements(), 3);
    }

    private static void runRefusedAtForty() {
        Due.part("promise 16, forty");
        RuleMatcher x = Due.withElements(0, 12);
        Due.addRule(x, 0, 0, ALL, ALL);
        Due.due("run(30)", x.run(30), 30);
        Due.due("run(30)", x.run(30), 10);
        Due.due("run(30)", x.run(30), 0);
        Due.due("run(31)", x.run(31), -1);
        Due.due("fire()", x.fire(), -2);
    }
}
