/** Every number of fields, every pattern and every action once, each held against the words of "Terms". */
public final class EveryNumberTest {
    private static final int PATTERNS = 32000;
    private static final int FREE = -1;

    /** Type, f0, f1, f2: all types, equal and unequal fields, and values from both ends. */
    private static final int[][] ELEMENTS = {{0, 0, 0, 0}, {0, 15, 15, 15}, {0, 1, 2, 3}, {1, 2, 2, 5}, {1, 7, 1, 7},
        {1, 4, 9, 9}, {2, 3, 3, 3}, {2, 0, 15, 0}, {2, 14, 2, 1}, {3, 2, 3, 2}, {3, 15, 0, 15}, {3, 6, 6, 10}};

    public static void main(String[] args) {
        everyElement();
        everyFitting();
        everySecondCondition();
        everyNegativeCondition();
        everyAction();
        Due.end();
    }

    private static void everyElement() {
        Due.part("promises 2 and 10, every element");
        RuleMatcher x = new RuleMatcher();
        for (int number = 0; number < 4 * 4096; number++) {
            int tag = number % 12 + 1;
            if (tag == 1) {
                x = new RuleMatcher();
            }
            Due.due("make, " + number, x.make(number / 4096, number % 4096), tag);
            Due.due("contents, " + number, x.contents(tag), number);
        }
    }

    private static void everyFitting() {
        Due.part("promise 17, every pattern");
        int[] none = {FREE, FREE, FREE};
        RuleMatcher x = withElements();
        for (int pattern = 0; pattern < PATTERNS; pattern++) {
            if (pattern % 500 == 0) {
                x = withElements();
            }
            Due.due("fitting(" + pattern + ")", x.fitting(pattern), howManyFit(pattern, none));
        }
    }

    private static void everySecondCondition() {
        Due.part("promises 4 and 11, every pattern as a second condition");
        // The first condition is fit by one element alone, which gives X and Z values and leaves Y free.
        int first = Due.pattern(2, Due.Z, 2, Due.X);
        int[] after = {1, FREE, 14};
        RuleMatcher x = withElements();
        for (int pattern = 0; pattern < PATTERNS; pattern++) {
            if (pattern % 100 == 0) {
                x = withElements();
            }
            Due.due("condition", x.condition(first, 0), 1);
            Due.due("condition(" + pattern + ", 0)", x.condition(pattern, 0), 2);
            Due.due("rule", x.rule(0), pattern % 5);
            Due.due("matches, " + pattern, x.matches(pattern % 5), howManyFit(pattern, after));
            if (pattern % 5 == 4) {
                Due.due("clearRules", x.clearRules(), 5);
            }
        }
    }

    private static void everyNegativeCondition() {
        Due.part("promises 4 and 11, every pattern as a negative condition");
        int first = Due.pattern(2, Due.X, Due.Y, 3);
        int[] after = {3, 3, FREE};
        RuleMatcher x = withElements();
        for (int pattern = 0; pattern < PATTERNS; pattern++) {
            if (pattern % 100 == 0) {
                x = withElements();
            }
            Due.due("condition", x.condition(first, 0), 1);
            Due.due("condition(" + pattern + ", 1)", x.condition(pattern, 1), 2);
            Due.due("rule", x.rule(1), pattern % 5);
            Due.due("matches, not " + pattern, x.matches(pattern % 5), howManyFit(pattern, after) == 0 ? 1 : 0);
            if (pattern % 5 == 4) {
                Due.due("clearRules", x.clearRules(), 5);
            }
        }
    }

    private static void everyAction() {
        Due.part("promises 5 and 15, every action that makes");
        int condition = Due.pattern(0, Due.X, 9, Due.Z);
        int[] after = {12, FREE, 5};
        RuleMatcher x = new RuleMatcher();
        for (int pattern = 0; pattern < PATTERNS; pattern++) {
            int turn = pattern % 80;
            if (turn == 0) {
                x = new RuleMatcher();
                Due.due("make", x.make(0, Due.fields(12, 9, 5)), 1);
            }
            Due.due("condition", x.condition(condition, 0), 1);
            Due.due("rule(4 + " + pattern + ")", x.rule(4 + pattern), 0);
            Due.due("fire", x.fire(), 0);
            Due.due("contents, made by " + pattern, x.contents(turn + 2), contentsMade(pattern, after));
            Due.due("remove", x.remove(turn + 2), 1);
            Due.due("clearRules", x.clearRules(), 1);
        }
    }

    private static RuleMatcher withElements() {
        RuleMatcher x = new RuleMatcher();
        for (int i = 0; i < ELEMENTS.length; i++) {
            int[] e = ELEMENTS[i];
            Due.due("make", x.make(e[0], Due.fields(e[1], e[2], e[3])), i + 1);
        }
        return x;
    }

    private static int howManyFit(int pattern, int[] assignment) {
        int count = 0;
        for (int[] element : ELEMENTS) {
            if (fits(pattern, element, assignment)) {
                count++;
            }
        }
        return count;
    }

    /** Asks each sentence of "FITS" by itself, so that it shares no way of reckoning with the program. */
    private static boolean fits(int pattern, int[] element, int[] assignment) {
        int[] entries = entries(pattern);
        boolean fits = element[0] == pattern / 8000;
        for (int i = 0; i < 3; i++) {
            int field = element[i + 1];
            int fixed = entries[i] <= 15 ? entries[i] : entries[i] == 16 ? FREE : assignment[entries[i] - 17];
            fits &= fixed == FREE || fixed == field;
            for (int j = 0; j < i; j++) {
                boolean sameVariable = entries[i] >= 17 && entries[i] == entries[j];
                fits &= !sameVariable || field == element[j + 1];
            }
        }
        return fits;
    }

    private static int contentsMade(int pattern, int[] assignment) {
        int[] fields = entries(pattern);
        for (int i = 0; i < 3; i++) {
            if (fields[i] >= 17) {
                fields[i] = assignment[fields[i] - 17] == FREE ? 0 : assignment[fields[i] - 17];
            } else if (fields[i] == 16) {
                fields[i] = 0;
            }
        }
        return 4096 * (pattern / 8000) + Due.fields(fields[0], fields[1], fields[2]);
    }

    private static int[] entries(int pattern) {
        return new int[] {pattern / 400 % 20, pattern / 20 % 20, pattern % 20};
    }
}
