/** Promises 15 and 16: a test for each sentence that names a boundary case. */
public final class FireEdgeTest {
    private static final int MIN = Integer.MIN_VALUE;
    private static final int MAX = Integer.MAX_VALUE;
    private static final int ALL = Due.all(0);
    private static final int ALL_1 = Due.all(1);

    public static void main(String[] args) {
        fireNoOpenMatch();
        fireNoLongerOpen();
        fireAnswersTheRule();
        fireForty();
        fireFortyOverSeveralRules();
        fireNoneOpenBeforeForty();
        fireRemovedCountNoMore();
        fireRemovedByTheActionCountNoMore();
        fireSharedElementRemoved();
        fireHeldBackStillCount();
        fireFortyForgottenWithTheRules();
        fireMakingLeftOut();
        fireMakingAtEleven();
        fireMakingLeftOutHasFired();
        fireRemovingAtTwelve();
        fireRemovesTheLastElement();
        runCount();
        runAtMostCount();
        runFewerThanCount();
        runNothing();
        runUntilForty();
        runActsEachTime();
        runOnceIsFire();
        Due.end();
    }

    private static void fireNoOpenMatch() {
        Due.part("promise 15, \"-1 if there is no open match\"");
        Run x = new Run();
        x.fire(-1);
        x.make(0, 0, 1);
        x.fire(-1);
        x.condition(ALL, 0, 1);
        x.fire(-1);
        x.rule(0, 0);
        x.fire(0);
        x.fire(-1);
        x.make(1, 0, 2);
        x.fire(-1);
        x.make(0, 0, 3);
        x.remove(3, 2);
        x.fire(-1);
        x.make(0, 0, 4);
        x.clearRules(1);
        x.fire(-1);
    }

    private static void fireNoLongerOpen() {
        Due.part("promise 15, \"it is no longer open\"");
        Run x = Run.withElements(0, 2);
        x.addRule(0, 0, 0, ALL, ALL);
        int[][] rows = {{2, 2}, {2, 1}, {1, 2}, {1, 1}};
        for (int i = 0; i < 4; i++) {
            x.open(4 - i);
            x.firesNext(0, rows[i]);
            x.matches(0, 4);
        }
        x.open(0);
    }

    private static void fireAnswersTheRule() {
        Due.part("promise 15, \"otherwise answers the rule's number\"");
        Run x = Run.withElements(0, 1);
        for (int rule = 0; rule < 5; rule++) {
            x.addRule(rule, 0, 0, ALL);
        }
        for (int rule = 0; rule < 5; rule++) {
            x.fire(rule);
        }
        x.fire(-1);
    }

    private static void fireForty() {
        Due.part("promise 15, \"-2 if there are 40 fired matches\"");
        Run x = Run.withElements(0, 7);
        x.addRule(0, 0, 0, ALL, ALL);
        x.run(30, 30);
        x.run(9, 9);
        x.open(10);
        // The fortieth is allowed, the next one is not.
        x.fire(0);
        x.open(9);
        x.fire(-2);
        x.fire(-2);
        x.open(9);
        x.matches(0, 49);
        x.firstRule(0);
        x.firstTag(0, 3);
        x.firstTag(1, 3);
    }

    private static void fireFortyOverSeveralRules() {
        Due.part("promise 15, \"40 fired matches\" of all rules");
        Run x = Run.withElements(0, 9);
        for (int rule = 0; rule < 5; rule++) {
            x.addRule(rule, 0, 0, ALL);
        }
        x.run(30, 30);
        x.run(30, 10);
        x.open(5);
        x.firstTag(0, 1);
        x.fire(-2);
        x.remove(9, 8);
        x.run(30, 5);
        x.fire(-1);
    }

    private static void fireNoneOpenBeforeForty() {
        Due.part("promise 15, -1 and -2 in this order");
        Run x = Run.withElements(0, 10);
        for (int rule = 0; rule < 4; rule++) {
            x.addRule(rule, 0, 0, ALL);
        }
        x.run(30, 30);
        x.run(30, 10);
        x.open(0);
        x.fire(-1);
        x.make(0, 0, 11);
        x.open(4);
        x.fire(-2);
        x.remove(11, 10);
        x.fire(-1);
        x.remove(10, 9);
        x.make(0, 0, 12);
        x.run(30, 4);
        x.fire(-1);
        x.make(0, 0, 13);
        x.fire(-2);
    }

    private static void fireRemovedCountNoMore() {
        Due.part("promise 15, \"fired matches with an element that was removed count no more\"");
        Run x = Run.withElements(0, 12);
        x.addRule(0, 0, 0, ALL);
        x.addRule(1, 0, 0, ALL);
        x.addRule(2, 0, 0, ALL);
        x.addRule(3, 0, 0, ALL);
        x.run(30, 30);
        x.run(30, 10);
        x.fire(-2);
        x.firstTag(0, 2);
        // No match of 1 or 2 has fired: removing 1 makes no room.
        x.remove(1, 11);
        x.fire(-2);
        x.remove(12, 10);
        x.open(4);
        for (int rule = 0; rule < 4; rule++) {
            x.fire(rule);
        }
        x.fire(-1);
        x.make(0, 0, 13);
        x.fire(-2);
        // Of tag 3, four matches have fired: as many can fire now.
        x.remove(3, 10);
        x.run(30, 4);
        x.make(0, 0, 14);
        x.fire(-2);
    }

    private static void fireRemovedByTheActionCountNoMore() {
        Due.part("promise 15, an element that the action removed");
        Run x = new Run();
        x.addRule(0, 1, 0, ALL);
        for (int turn = 0; turn < 5; turn++) {
            for (int i = 1; i <= 12; i++) {
                x.make(0, 0, 12 * turn + i);
            }
            x.run(30, 12);
        }
        x.elements(0);
        x.fire(-1);
        x.make(0, 0, 61);
        x.fire(0);
    }

    private static void fireSharedElementRemoved() {
        Due.part("promise 15, an element of the second or third condition removed");
        for (int k = 0; k < 3; k++) {
            Run x = new Run();
            int[] types = {1, 1, 1};
            types[k] = 2;
            x.make(2, 0, 1);
            for (int tag = 2; tag <= 8; tag++) {
                x.make(1, 0, tag);
            }
            x.addRule(0, 0, 0, Due.all(types[0]), Due.all(types[1]), Due.all(types[2]));
            x.matches(0, 49);
            x.run(30, 30);
            x.run(30, 10);
            x.fire(-2);
            x.remove(1, 7);
            x.fire(-1);
            x.make(2, 0, 9);
            x.run(30, 30);
            x.run(30, 10);
            x.fire(-2);
        }
    }

    private static void fireHeldBackStillCount() {
        Due.part("promise 15, \"fired matches all of whose elements exist\"");
        Run x = Run.withElements(0, 7);
        x.addRule(0, 0, 4, ALL, ALL, ALL_1);
        x.run(30, 30);
        x.run(10, 10);
        x.make(1, 0, 8);
        x.matches(0, 0);
        x.fire(-1);
        x.addRule(1, 0, 0, ALL_1);
        x.fire(-2);
        x.remove(7, 7);
        x.fire(1);
        x.open(0);
    }

    private static void fireFortyForgottenWithTheRules() {
        Due.part("promise 15, forty, and clearRules");
        Run x = Run.withElements(0, 7);
        x.addRule(0, 0, 0, ALL, ALL);
        x.run(30, 30);
        x.run(10, 10);
        x.fire(-2);
        x.clearRules(1);
        x.fire(-1);
        x.addRule(0, 0, 0, ALL, ALL);
        x.open(49);
        x.fire(0);
        x.open(48);
    }

    private static void fireMakingLeftOut() {
        Due.part("promise 15, \"making an element is left out if there are 12\"");
        Run x = Run.withElements(0, 12);
        x.addRule(0, Due.making(1, 1, 1, 1), 0, ALL);
        x.fire(0);
        x.elements(12);
        x.exists(13, 0);
        x.fitting(ALL_1, 0);
        x.remove(1, 11);
        // The element that was left out took no tag.
        x.make(0, 0, 13);
    }

    private static void fireMakingAtEleven() {
        Due.part("promise 15, making at 11 and at 12");
        Run x = Run.withElements(0, 11);
        x.addRule(0, Due.making(1, 1, 2, 3), 0, ALL);
        x.firesNext(0, 11);
        x.elements(12);
        x.contents(12, 4096 + Due.fields(1, 2, 3));
        x.firesNext(0, 10);
        x.elements(12);
        x.remove(12, 11);
        x.firesNext(0, 9);
        x.elements(12);
        x.contents(13, 4096 + Due.fields(1, 2, 3));
        x.firesNext(0, 8);
        x.exists(14, 0);
    }

    private static void fireMakingLeftOutHasFired() {
        Due.part("promise 15, making left out, and fired all the same");
        Run x = Run.withElements(0, 12);
        x.addRule(0, Due.making(0, 0, 0, 0), 0, ALL);
        x.run(30, 12);
        x.elements(12);
        x.open(0);
        x.remove(12, 11);
        // It does not make up later for what was left out.
        x.fire(-1);
        x.elements(11);
        x.make(0, 0, 13);
        x.firesNext(0, 13);
    }

    private static void fireRemovingAtTwelve() {
        Due.part("promise 15, removing at 12, then making");
        Run x = Run.withElements(0, 12);
        x.addRule(0, 1, 0, ALL);
        x.addRule(1, Due.making(1, 0, 0, 0), 0, ALL);
        x.firesNext(0, 12);
        x.elements(11);
        x.firesNext(0, 11);
        x.firesNext(0, 10);
        x.elements(9);
        x.clearRules(2);
        x.addRule(0, Due.making(1, 0, 0, 0), 0, ALL);
        x.run(30, 9);
        x.elements(12);
        x.contents(13, 4096);
        x.contents(15, 4096);
        x.exists(16, 0);
    }

    private static void fireRemovesTheLastElement() {
        Due.part("promise 15, removing the last element");
        Run x = Run.withElements(0, 1);
        x.addRule(0, 3, 0, ALL, ALL, ALL);
        x.firesNext(0, 1, 1, 1);
        x.elements(0);
        x.exists(1, 0);
        x.fire(-1);
        x.make(0, 0, 2);
        x.firesNext(0, 2, 2, 2);
    }

    private static void runCount() {
        Due.part("promise 16, \"-1 if count is not in 1 .. 30\"");
        Run x = Run.withElements(0, 6);
        x.run(0, -1);
        x.run(31, -1);
        x.addRule(0, 0, 0, ALL, ALL);
        x.run(MIN, -1);
        x.run(-1, -1);
        x.run(0, -1);
        x.run(31, -1);
        x.run(MAX, -1);
        for (int wrap : Due.WRAPS) {
            x.run(1 + wrap, -1);
            x.run(30 + wrap, -1);
        }
        x.run(257, -1);
        x.open(36);
        x.run(1, 1);
        x.open(35);
        x.run(30, 30);
        x.open(5);
    }

    private static void runAtMostCount() {
        Due.part("promise 16, \"Fires up to count times\"");
        int[] counts = {1, 2, 29, 30};
        for (int count : counts) {
            Run x = Run.withElements(0, 6);
            x.addRule(0, 0, 0, ALL, ALL);
            x.run(count, count);
            x.open(36 - count);
        }
    }

    private static void runFewerThanCount() {
        Due.part("promise 16, as many as there are, one more, one fewer");
        for (int more = -1; more <= 1; more++) {
            Run x = Run.withElements(0, 9);
            x.addRule(0, 0, 0, ALL);
            x.run(9 + more, more == -1 ? 8 : 9);
            x.open(more == -1 ? 1 : 0);
        }
    }

    private static void runNothing() {
        Due.part("promise 16, no open match");
        Run x = new Run();
        x.run(1, 0);
        x.run(30, 0);
        x.addRule(0, 0, 0, ALL);
        x.run(1, 0);
        x.make(0, 0, 1);
        x.run(1, 1);
        x.run(1, 0);
        x.run(30, 0);
    }

    private static void runUntilForty() {
        Due.part("promise 16, \"as long as fire is not refused\"");
        Run x = Run.withElements(0, 12);
        x.addRule(0, 0, 0, ALL, ALL);
        x.run(30, 30);
        x.run(30, 10);
        x.open(104);
        x.run(1, 0);
        x.run(30, 0);
        x.run(31, -1);
        x.fire(-2);
        // Of the fired ones 23 have 12: as many can fire again.
        x.remove(12, 11);
        x.run(22, 22);
        x.run(30, 1);
        x.run(30, 0);
    }

    private static void runActsEachTime() {
        Due.part("promise 16, what one firing makes, the next one finds");
        Run x = new Run();
        x.make(0, Due.fields(1, 0, 0), 1);
        int next = Due.pattern(0, Due.X, Due.Y, Due.ANY);
        x.addRule(0, Due.making(0, Due.Y, Due.X, 0), 0, next);
        // Each made element makes the next, until there are 12; the last one's making is left out.
        x.run(11, 11);
        x.elements(12);
        x.contents(11, Due.fields(1, 0, 0));
        x.contents(12, Due.fields(0, 1, 0));
        x.open(1);
        x.run(30, 1);
        x.elements(12);
    }

    private static void runOnceIsFire() {
        Due.part("promise 16, run(1) and fire()");
        Run one = Run.withElements(0, 3);
        Run other = Run.withElements(0, 3);
        one.addRule(0, 2, 0, ALL, ALL);
        other.addRule(0, 2, 0, ALL, ALL);
        for (int left = 2; left >= 0; left--) {
            one.run(1, 1);
            other.fire(0);
            one.elements(left);
            other.elements(left);
        }
        one.run(1, 0);
        other.fire(-1);
    }
}
