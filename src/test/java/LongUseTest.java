/** "An object is used for at most 512 calls": all of them are answered, and none of the later ones fails. */
public final class LongUseTest {
    private static final int CALLS = 512;
    private static final int ALL = Due.all(0);

    public static void main(String[] args) {
        lastOfAll();
        tagsOfMakingAndRemoving();
        greatestTags();
        rulesOverAndOver();
        draftsOverAndOver();
        firedOverAndOver();
        afterTheLastCall();
        Due.end();
    }

    private static void lastOfAll() {
        Due.part("What it is, the 512th call");
        RuleMatcher x = Due.withElements(0, 3);
        Due.due("rule", Due.addRule(x, Due.making(1, 1, 2, 3), 0, ALL), 0);
        for (int call = 6; call < CALLS; call++) {
            Due.due("open, call " + call, x.open(), 3);
        }
        Due.due("fire, call 512", x.fire(), 0);
    }

    private static void tagsOfMakingAndRemoving() {
        Due.part("What it is, 256 elements made and removed");
        RuleMatcher x = new RuleMatcher();
        for (int tag = 1; tag <= CALLS / 2; tag++) {
            Due.due("make", x.make(tag % 4, tag), tag);
            Due.due("remove", x.remove(tag), 0);
        }
    }

    /** A firing makes one element at most, and another must remove it: tags can't become much greater than these. */
    private static void greatestTags() {
        Due.part("What it is, the greatest tags");
        RuleMatcher x = withTurningElement();
        int[] fields = {Due.fields(1, 2, 3), Due.fields(2, 3, 1), Due.fields(3, 1, 2)};
        int tag = 1;
        for (int call = 7; call <= CALLS - 4; call++) {
            Due.due("run, call " + call, x.run(30), 30);
            tag += 15;
        }
        Due.due("firstTag", x.firstTag(0), tag);
        Due.due("contents", x.contents(tag), fields[(tag - 1) % 3]);
        Due.due("exists, the one before", x.exists(tag - 1), 0);
        Due.due("make", x.make(0, 0), tag + 1);
    }

    /** Six calls: an element that makes one with its fields turned by one place, which then removes it, and so on. */
    private static RuleMatcher withTurningElement() {
        RuleMatcher x = new RuleMatcher();
        Due.due("make", x.make(0, Due.fields(1, 2, 3)), 1);
        int turned = Due.pattern(0, Due.X, Due.Y, Due.Z);
        int maker = Due.pattern(0, Due.Z, Due.X, Due.Y);
        Due.due("rule", Due.addRule(x, Due.making(0, Due.Y, Due.Z, Due.X), 0, turned), 0);
        Due.due("rule", Due.addRule(x, 2, 0, turned, maker), 1);
        return x;
    }

    private static void rulesOverAndOver() {
        Due.part("What it is, rules made and cleared");
        RuleMatcher x = Due.withElements(0, 1);
        for (int turn = 0; turn < 40; turn++) {
            for (int rule = 0; rule < 5; rule++) {
                Due.due("condition", x.condition(ALL, 0), 1);
                Due.due("rule", x.rule(0), rule);
            }
            Due.due("fire", x.fire(), 0);
            Due.due("clearRules", x.clearRules(), 5);
        }
    }

    private static void draftsOverAndOver() {
        Due.part("What it is, drafts begun and given up");
        RuleMatcher x = Due.withElements(0, 2);
        for (int turn = 0; turn < 100; turn++) {
            Due.due("condition", x.condition(ALL, 0), 1);
            Due.due("condition", x.condition(ALL, 1), 2);
            Due.due("condition", x.condition(ALL, 0), 3);
            Due.due("condition", x.condition(ALL, 0), -2);
            Due.due("clearRules", x.clearRules(), 0);
        }
    }

    /** More than forty matches fire in the end, and at no time are there forty whose elements exist. */
    private static void firedOverAndOver() {
        Due.part("What it is, many fired matches");
        RuleMatcher x = Due.withElements(0, 5);
        Due.due("rule", Due.addRule(x, 0, 0, ALL, ALL), 0);
        Due.due("run", x.run(30), 25);
        for (int tag = 6; tag <= 125; tag++) {
            Due.due("remove", x.remove(tag - 5), 4);
            Due.due("make", x.make(0, 0), tag);
            Due.due("run", x.run(30), 9);
            Due.due("fire", x.fire(), -1);
        }
    }

    /** What these calls answer is free; LANGUAGE.md's rule 7 lets none of them throw or fail to end. */
    private static void afterTheLastCall() {
        Due.part("LANGUAGE.md, rule 7, after the 512th call");
        Numbers numbers = new Numbers(7);
        for (int object = 0; object < 20; object++) {
            RuleMatcher x = new RuleMatcher();
            for (int call = 0; call < 10 * CALLS; call++) {
                anyCall(x, numbers);
            }
        }
        RuleMatcher turning = withTurningElement();
        for (int call = 0; call < 100 * CALLS; call++) {
            turning.run(30);
        }
        Due.due("all calls came back", 1, 1);
    }

    private static void anyCall(RuleMatcher x, Numbers numbers) {
        switch (numbers.below(20)) {
            case 0, 1, 2 -> x.make(any(numbers, 4), any(numbers, 4096));
            case 3 -> x.remove(any(numbers, 600));
            case 4, 5, 6 -> x.condition(any(numbers, 32000), numbers.below(4) == 0 ? any(numbers, 2) : 0);
            case 7, 8 -> x.rule(any(numbers, numbers.below(2) == 0 ? 4 : 32004));
            case 9 -> {
                if (numbers.below(20) == 0) {
                    x.clearRules();
                }
            }
            case 10 -> x.elements();
            case 11 -> x.rules();
            case 12 -> x.exists(any(numbers, 600));
            case 13 -> x.contents(any(numbers, 600));
            case 14 -> x.matches(any(numbers, 5));
            case 15 -> x.open();
            case 16 -> x.firstRule();
            case 17 -> x.firstTag(any(numbers, 3));
            case 18 -> x.run(any(numbers, 31));
            default -> x.fitting(any(numbers, 32000));
        }
    }

    /** Mostly a number that is asked for, at times any int. */
    private static int any(Numbers numbers, int bound) {
        int wheel = numbers.below(12);
        return wheel == 0 ? numbers.any() : wheel == 1 ? bound : wheel == 2 ? -1 : numbers.below(bound);
    }
}
