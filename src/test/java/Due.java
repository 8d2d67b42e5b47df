/** What the tests share: counting wrong answers, and writing patterns and fields as numbers. */
final class Due {
    static final int ANY = 16;
    static final int X = 17;
    static final int Y = 18;
    static final int Z = 19;
    /** A value for every place where a number out of range is wanted. */
    static final int[] FAR = {Integer.MIN_VALUE, Integer.MIN_VALUE + 1, -1000000, 1000000, Integer.MAX_VALUE};

    /** Added to a number, each of these gives another one that looks the same if its upper bits are lost. */
    static final int[] WRAPS = {65536, -65536, 1 << 24, Integer.MIN_VALUE};

    private static int wrong = 0;
    private static int asked = 0;
    private static String part = "";

    private Due() {
    }

    static void part(String name) {
        part = name;
    }

    static void due(String call, int got, int want) {
        asked++;
        if (got != want) {
            wrong++;
            System.out.println(part + ": " + call + " answered " + got + ", due is " + want);
        }
    }

    static void end() {
        System.out.println(asked + " answers, " + wrong + " not as due");
        if (wrong != 0) {
            System.exit(1);
        }
    }

    static int pattern(int type, int e0, int e1, int e2) {
        return 8000 * type + 400 * e0 + 20 * e1 + e2;
    }

    /** The pattern that every element of the type fits. */
    static int all(int type) {
        return pattern(type, ANY, ANY, ANY);
    }

    static int making(int type, int e0, int e1, int e2) {
        return 4 + pattern(type, e0, e1, e2);
    }

    static int fields(int f0, int f1, int f2) {
        return 256 * f0 + 16 * f1 + f2;
    }

    /** A rule from patterns; the i-th of them is negative if bit i of negatives is set. */
    static int addRule(RuleMatcher x, int action, int negatives, int... patterns) {
        for (int i = 0; i < patterns.length; i++) {
            due("condition " + i + " of a rule", x.condition(patterns[i], negatives >> i & 1), i + 1);
        }
        return x.rule(action);
    }

    static RuleMatcher withElements(int type, int count) {
        RuleMatcher x = new RuleMatcher();
        for (int i = 1; i <= count; i++) {
            due("make element " + i, x.make(type, 0), i);
        }
        return x;
    }
}
