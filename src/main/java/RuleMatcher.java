/** Rules over a changing set of elements: what matches, what comes first, and firing. */
public final class RuleMatcher {
    private static final int MAX_ELEMENTS = 12;
    private static final int MAX_RULES = 5;
    private static final int MAX_CONDITIONS = 3;
    private static final int MAX_FIRED = 40;
    private static final int MAX_RUN = 30;

    private static final int TYPES = 4;
    private static final int FIELDS = 3;
    private static final int FIELD_VALUES = 16;
    private static final int FIELD_ROWS = 4096;
    private static final int VARIABLES = 3;

    private static final int ENTRIES = 20;
    private static final int ANYTHING = 16;
    private static final int FIRST_VARIABLE = 17;
    private static final int PATTERNS = 32000;
    private static final int PATTERNS_PER_TYPE = 8000;

    private static final int NOTHING = 0;
    private static final int FIRST_MAKING = 4;
    private static final int ACTIONS = 32004;

    // One slot more than there can be rules: the draft lies behind the last rule.
    private static final int RULE_SLOTS = 6;
    private static final int CONDITION_SLOTS = 18;
    private static final int FIRED_TAG_SLOTS = 120;

    private static final int NONE = -1;
    // No element bears this tag, so a row shorter than three is filled up with it.
    private static final int NO_TAG = 0;

    private int lastTag;
    private int elementCount;
    private final int[] tagAt = new int[MAX_ELEMENTS];
    private final int[] contentsAt = new int[MAX_ELEMENTS];

    private int ruleCount;
    private final int[] actionOf = new int[RULE_SLOTS];
    private final int[] conditionCount = new int[RULE_SLOTS];
    private final int[] positiveCount = new int[RULE_SLOTS];
    private final int[] patternAt = new int[CONDITION_SLOTS];
    private final boolean[] negativeAt = new boolean[CONDITION_SLOTS];

    // Only fired matches all of whose elements exist: tags never come back, so no other can match again.
    private int firedCount;
    private final int[] firedRule = new int[MAX_FIRED];
    private final int[] firedTag = new int[FIRED_TAG_SLOTS];

    // Working space: the row that is being looked at, its tags, and the assignment so far.
    private final int[] rowTag = new int[MAX_CONDITIONS];
    private final int[] rowFalling = new int[MAX_CONDITIONS];
    private final int[] value = new int[VARIABLES];
    private final int[] extended = new int[VARIABLES];

    // Working space: the open match that comes before all others seen so far.
    private int bestRule;
    private final int[] bestTag = new int[MAX_CONDITIONS];
    private final int[] bestFalling = new int[MAX_CONDITIONS];
    private final int[] bestValue = new int[VARIABLES];

    public RuleMatcher() {
    }

    public int make(int type, int fields) {
        if (type < 0 || type >= TYPES) {
            return -1;
        }
        if (fields < 0 || fields >= FIELD_ROWS) {
            return -2;
        }
        if (elementCount >= MAX_ELEMENTS) {
            return -3;
        }
        lastTag++;
        tagAt[elementCount] = lastTag;
        contentsAt[elementCount] = FIELD_ROWS * type + fields;
        elementCount++;
        return lastTag;
    }

    public int remove(int tag) {
        int position = positionOf(tag);
        if (position == NONE) {
            return -1;
        }
        // The last element may fill the gap: the order of matches asks for tags, not for positions.
        elementCount--;
        tagAt[position] = tagAt[elementCount];
        contentsAt[position] = contentsAt[elementCount];
        forgetFiredWith(tag);
        return elementCount;
    }

    public int condition(int pattern, int negative) {
        int draft = ruleCount;
        int count = conditionCount[draft];
        if (!isPattern(pattern)) {
            return -1;
        }
        if (count >= MAX_CONDITIONS) {
            return -2;
        }
        if (negative != 0 && count == 0) {
            return -3;
        }
        int at = MAX_CONDITIONS * draft + count;
        patternAt[at] = pattern;
        negativeAt[at] = negative != 0;
        if (negative == 0) {
            positiveCount[draft]++;
        }
        conditionCount[draft] = count + 1;
        return count + 1;
    }

    public int rule(int action) {
        int draft = ruleCount;
        if (conditionCount[draft] == 0) {
            return -1;
        }
        if (action < 0 || action >= ACTIONS) {
            return -2;
        }
        if (action < FIRST_MAKING && action > positiveCount[draft]) {
            return -3;
        }
        if (ruleCount >= MAX_RULES) {
            return -4;
        }
        actionOf[draft] = action;
        ruleCount++;
        emptyDraft();
        return draft;
    }

    public int clearRules() {
        int count = ruleCount;
        ruleCount = 0;
        emptyDraft();
        firedCount = 0;
        return count;
    }

    public int elements() {
        return elementCount;
    }

    public int rules() {
        return ruleCount;
    }

    public int exists(int tag) {
        return positionOf(tag) == NONE ? 0 : 1;
    }

    public int contents(int tag) {
        int position = positionOf(tag);
        return position == NONE ? -1 : contentsAt[position];
    }

    public int matches(int rule) {
        if (rule < 0 || rule >= ruleCount) {
            return -1;
        }
        int rows = rowsOf(rule);
        int count = 0;
        for (int row = 0; row < rows; row++) {
            if (isMatch(rule, row)) {
                count++;
            }
        }
        return count;
    }

    public int open() {
        int count = 0;
        for (int rule = 0; rule < ruleCount; rule++) {
            int rows = rowsOf(rule);
            for (int row = 0; row < rows; row++) {
                if (isMatch(rule, row) && !rowHasFired(rule)) {
                    count++;
                }
            }
        }
        return count;
    }

    public int firstRule() {
        findBest();
        return bestRule;
    }

    public int firstTag(int k) {
        findBest();
        if (bestRule == NONE) {
            return -1;
        }
        if (k < 0 || k >= positiveCount[bestRule]) {
            return -2;
        }
        return bestTag[k];
    }

    public int fire() {
        findBest();
        if (bestRule == NONE) {
            return -1;
        }
        if (firedCount >= MAX_FIRED) {
            return -2;
        }
        // Before the action, which may remove an element of this very match.
        recordBestAsFired();
        act(actionOf[bestRule]);
        return bestRule;
    }

    public int run(int count) {
        if (count < 1 || count > MAX_RUN) {
            return -1;
        }
        for (int done = 0; done < count; done++) {
            if (fire() < 0) {
                return done;
            }
        }
        return count;
    }

    public int fitting(int pattern) {
        if (!isPattern(pattern)) {
            return -1;
        }
        clearAssignment();
        return countFitting(pattern);
    }

    private boolean isPattern(int pattern) {
        return pattern >= 0 && pattern < PATTERNS;
    }

    private int positionOf(int tag) {
        for (int position = 0; position < elementCount; position++) {
            if (tagAt[position] == tag) {
                return position;
            }
        }
        return NONE;
    }

    private void emptyDraft() {
        conditionCount[ruleCount] = 0;
        positiveCount[ruleCount] = 0;
    }

    private void clearAssignment() {
        for (int v = 0; v < VARIABLES; v++) {
            value[v] = NONE;
        }
    }

    /** Leaves the assignment extended by the element in extended, of use only if the element fits. */
    private boolean fits(int pattern, int position) {
        for (int v = 0; v < VARIABLES; v++) {
            extended[v] = value[v];
        }
        int entries = pattern;
        int fields = contentsAt[position];
        for (int i = 0; i < FIELDS; i++) {
            int entry = entries % ENTRIES;
            int field = fields % FIELD_VALUES;
            if (entry < ANYTHING && entry != field) {
                return false;
            }
            if (entry >= FIRST_VARIABLE) {
                int v = entry - FIRST_VARIABLE;
                if (extended[v] == NONE) {
                    extended[v] = field;
                }
                if (extended[v] != field) {
                    return false;
                }
            }
            entries = entries / ENTRIES;
            fields = fields / FIELD_VALUES;
        }
        // With the fields taken off, what is left of either number is its type.
        return entries == fields;
    }

    private int countFitting(int pattern) {
        int count = 0;
        for (int position = 0; position < elementCount; position++) {
            if (fits(pattern, position)) {
                count++;
            }
        }
        return count;
    }

    /** A row is a number whose digits to the base MAX_ELEMENTS are positions, the first condition's lowest. */
    private int rowsOf(int rule) {
        int rows = 1;
        for (int i = 0; i < positiveCount[rule]; i++) {
            rows = rows * MAX_ELEMENTS;
        }
        return rows;
    }

    /** Leaves the row's tags in rowTag and its assignment in value, of use only if it is a match. */
    private boolean isMatch(int rule, int row) {
        clearAssignment();
        clearRowTags();
        int positives = 0;
        int rest = row;
        for (int i = 0; i < conditionCount[rule]; i++) {
            int at = MAX_CONDITIONS * rule + i;
            if (negativeAt[at]) {
                if (countFitting(patternAt[at]) > 0) {
                    return false;
                }
            } else {
                int position = rest % MAX_ELEMENTS;
                rest = rest / MAX_ELEMENTS;
                if (position >= elementCount || !fits(patternAt[at], position)) {
                    return false;
                }
                takeExtended();
                rowTag[positives] = tagAt[position];
                positives++;
            }
        }
        return true;
    }

    private void clearRowTags() {
        for (int i = 0; i < MAX_CONDITIONS; i++) {
            rowTag[i] = NO_TAG;
        }
    }

    private void takeExtended() {
        for (int v = 0; v < VARIABLES; v++) {
            value[v] = extended[v];
        }
    }

    private boolean rowHasFired(int rule) {
        for (int i = 0; i < firedCount; i++) {
            int at = MAX_CONDITIONS * i;
            if (firedRule[i] == rule && firedTag[at] == rowTag[0]
                    && firedTag[at + 1] == rowTag[1] && firedTag[at + 2] == rowTag[2]) {
                return true;
            }
        }
        return false;
    }

    private void findBest() {
        bestRule = NONE;
        for (int rule = 0; rule < ruleCount; rule++) {
            int rows = rowsOf(rule);
            for (int row = 0; row < rows; row++) {
                if (isMatch(rule, row) && !rowHasFired(rule)) {
                    sortRowTags();
                    if (rowBeatsBest(rule)) {
                        keepRowAsBest(rule);
                    }
                }
            }
        }
    }

    private void sortRowTags() {
        for (int i = 0; i < MAX_CONDITIONS; i++) {
            int tag = rowTag[i];
            int place = i;
            while (place > 0 && rowFalling[place - 1] < tag) {
                rowFalling[place] = rowFalling[place - 1];
                place--;
            }
            rowFalling[place] = tag;
        }
    }

    private boolean rowBeatsBest(int rule) {
        if (bestRule == NONE) {
            return true;
        }
        // NO_TAG is less than every tag, so the longer of two rows that begin alike comes first here.
        for (int i = 0; i < MAX_CONDITIONS; i++) {
            if (rowFalling[i] != bestFalling[i]) {
                return rowFalling[i] > bestFalling[i];
            }
        }
        if (rule != bestRule) {
            return rule < bestRule;
        }
        for (int i = 0; i < MAX_CONDITIONS; i++) {
            if (rowTag[i] != bestTag[i]) {
                return rowTag[i] > bestTag[i];
            }
        }
        return false;
    }

    private void keepRowAsBest(int rule) {
        bestRule = rule;
        for (int i = 0; i < MAX_CONDITIONS; i++) {
            bestTag[i] = rowTag[i];
            bestFalling[i] = rowFalling[i];
        }
        for (int v = 0; v < VARIABLES; v++) {
            bestValue[v] = value[v];
        }
    }

    private void recordBestAsFired() {
        firedRule[firedCount] = bestRule;
        for (int i = 0; i < MAX_CONDITIONS; i++) {
            firedTag[MAX_CONDITIONS * firedCount + i] = bestTag[i];
        }
        firedCount++;
    }

    private void forgetFiredWith(int tag) {
        int kept = 0;
        for (int i = 0; i < firedCount; i++) {
            int at = MAX_CONDITIONS * i;
            boolean holdsTag = firedTag[at] == tag || firedTag[at + 1] == tag || firedTag[at + 2] == tag;
            if (!holdsTag) {
                moveFired(i, kept);
                kept++;
            }
        }
        firedCount = kept;
    }

    private void moveFired(int from, int to) {
        firedRule[to] = firedRule[from];
        for (int i = 0; i < MAX_CONDITIONS; i++) {
            firedTag[MAX_CONDITIONS * to + i] = firedTag[MAX_CONDITIONS * from + i];
        }
    }

    private void act(int action) {
        if (action >= FIRST_MAKING) {
            int pattern = action - FIRST_MAKING;
            int fields = filledFields(pattern);
            // Refused, and so left out, if there is no room.
            make(pattern / PATTERNS_PER_TYPE, fields);
        } else if (action > NOTHING) {
            remove(bestTag[action - 1]);
        }
    }

    private int filledFields(int pattern) {
        int entries = pattern;
        int fields = 0;
        int weight = 1;
        for (int i = 0; i < FIELDS; i++) {
            int field = filledField(entries % ENTRIES);
            fields = fields + weight * field;
            weight = weight * FIELD_VALUES;
            entries = entries / ENTRIES;
        }
        return fields;
    }

    private int filledField(int entry) {
        if (entry < ANYTHING) {
            return entry;
        }
        if (entry == ANYTHING || bestValue[entry - FIRST_VARIABLE] == NONE) {
            return 0;
        }
        return bestValue[entry - FIRST_VARIABLE];
    }
}
