import java.util.ArrayList;
import java.util.HashMap;
import java.util.HashSet;
import java.util.List;
import java.util.Map;
import java.util.Set;
import java.util.TreeMap;

/** The document's words as directly as Java's library lets one write them; slow, and never forgets a fired match. */
final class Model {
    private record Condition(int type, List<Integer> entries, boolean negative) {
    }

    private record Rule(List<Condition> conditions, int action) {
        int positives() {
            return (int) conditions.stream().filter(c -> !c.negative).count();
        }
    }

    private record Name(int rule, List<Integer> tags) {
    }

    private record Match(Name name, Map<Integer, Integer> assignment) {
        List<Integer> falling() {
            List<Integer> tags = new ArrayList<>(name.tags);
            tags.sort((a, b) -> b - a);
            return tags;
        }
    }

    private final TreeMap<Integer, int[]> elements = new TreeMap<>();
    private final List<Rule> rules = new ArrayList<>();
    private final Set<Name> fired = new HashSet<>();
    private List<Condition> draft = new ArrayList<>();
    private int tags = 0;

    int make(int type, int fields) {
        if (type < 0 || type > 3) return -1;
        if (fields < 0 || fields > 4095) return -2;
        if (elements.size() == 12) return -3;
        tags++;
        elements.put(tags, new int[] {type, fields / 256, fields / 16 % 16, fields % 16});
        return tags;
    }

    int remove(int tag) {
        return elements.remove(tag) == null ? -1 : elements.size();
    }

    int condition(int pattern, int negative) {
        if (pattern < 0 || pattern > 31999) return -1;
        if (draft.size() == 3) return -2;
        if (negative != 0 && draft.isEmpty()) return -3;
        draft.add(read(pattern, negative != 0));
        return draft.size();
    }

    int rule(int action) {
        Rule made = new Rule(draft, action);
        if (draft.isEmpty()) return -1;
        if (action < 0 || action > 32003) return -2;
        if (action >= 1 && action <= 3 && made.positives() < action) return -3;
        if (rules.size() == 5) return -4;
        rules.add(made);
        draft = new ArrayList<>();
        return rules.size() - 1;
    }

    int clearRules() {
        int count = rules.size();
        rules.clear();
        draft = new ArrayList<>();
        fired.clear();
        return count;
    }

    int elements() {
        return elements.size();
    }

    int rules() {
        return rules.size();
    }

    int exists(int tag) {
        return elements.containsKey(tag) ? 1 : 0;
    }

    int contents(int tag) {
        int[] e = elements.get(tag);
        return e == null ? -1 : 4096 * e[0] + 256 * e[1] + 16 * e[2] + e[3];
    }

    int matches(int rule) {
        return rule < 0 || rule >= rules.size() ? -1 : matchesOf(rule).size();
    }

    int open() {
        return openMatches().size();
    }

    int firstRule() {
        Match first = first();
        return first == null ? -1 : first.name.rule;
    }

    int firstTag(int k) {
        Match first = first();
        if (first == null) return -1;
        if (k < 0 || k >= first.name.tags.size()) return -2;
        return first.name.tags.get(k);
    }

    int fire() {
        Match first = first();
        if (first == null) return -1;
        if (firedAndThere() == 40) return -2;
        fired.add(first.name);
        act(first);
        return first.name.rule;
    }

    int run(int count) {
        if (count < 1 || count > 30) return -1;
        int done = 0;
        while (done < count && fire() >= 0) done++;
        return done;
    }

    int fitting(int pattern) {
        if (pattern < 0 || pattern > 31999) return -1;
        Condition c = read(pattern, false);
        return (int) elements.values().stream().filter(e -> extend(c, e, Map.of()) != null).count();
    }

    long firedAndThere() {
        return fired.stream().filter(name -> elements.keySet().containsAll(name.tags)).count();
    }

    private static Condition read(int pattern, boolean negative) {
        return new Condition(pattern / 8000, List.of(pattern / 400 % 20, pattern / 20 % 20, pattern % 20), negative);
    }

    /** The assignment extended by the element, or null if it does not fit. */
    private static Map<Integer, Integer> extend(Condition c, int[] element, Map<Integer, Integer> assignment) {
        if (element[0] != c.type) return null;
        Map<Integer, Integer> extended = new HashMap<>(assignment);
        for (int i = 0; i < 3; i++) {
            int entry = c.entries.get(i);
            int field = element[i + 1];
            if (entry <= 15 && entry != field) return null;
            if (entry >= 17) {
                Integer before = extended.putIfAbsent(entry - 17, field);
                if (before != null && before != field) return null;
            }
        }
        return extended;
    }

    private List<Match> matchesOf(int rule) {
        List<Match> found = new ArrayList<>();
        goOn(rule, 0, List.of(), Map.of(), found);
        return found;
    }

    private void goOn(int rule, int at, List<Integer> row, Map<Integer, Integer> assignment, List<Match> found) {
        List<Condition> conditions = rules.get(rule).conditions;
        if (at == conditions.size()) {
            found.add(new Match(new Name(rule, row), assignment));
            return;
        }
        Condition c = conditions.get(at);
        if (c.negative) {
            if (elements.values().stream().noneMatch(e -> extend(c, e, assignment) != null)) {
                goOn(rule, at + 1, row, assignment, found);
            }
            return;
        }
        elements.forEach((tag, element) -> {
            Map<Integer, Integer> extended = extend(c, element, assignment);
            if (extended != null) {
                List<Integer> longer = new ArrayList<>(row);
                longer.add(tag);
                goOn(rule, at + 1, longer, extended, found);
            }
        });
    }

    private List<Match> openMatches() {
        List<Match> open = new ArrayList<>();
        for (int rule = 0; rule < rules.size(); rule++) {
            open.addAll(matchesOf(rule));
        }
        open.removeIf(m -> fired.contains(m.name));
        return open;
    }

    private Match first() {
        return openMatches().stream().min(Model::compare).orElse(null);
    }

    private static int compare(Match a, Match b) {
        List<Integer> rowA = a.falling();
        List<Integer> rowB = b.falling();
        for (int i = 0; i < Math.min(rowA.size(), rowB.size()); i++) {
            if (!rowA.get(i).equals(rowB.get(i))) return rowB.get(i) - rowA.get(i);
        }
        if (rowA.size() != rowB.size()) return rowB.size() - rowA.size();
        if (a.name.rule != b.name.rule) return a.name.rule - b.name.rule;
        for (int i = 0; i < rowA.size(); i++) {
            int difference = b.name.tags.get(i) - a.name.tags.get(i);
            if (difference != 0) return difference;
        }
        return 0;
    }

    private void act(Match match) {
        int action = rules.get(match.name.rule).action;
        if (action >= 1 && action <= 3) {
            elements.remove(match.name.tags.get(action - 1));
        }
        if (action >= 4 && elements.size() < 12) {
            Condition made = read(action - 4, false);
            int[] element = {made.type, 0, 0, 0};
            for (int i = 0; i < 3; i++) {
                int entry = made.entries.get(i);
                element[i + 1] = entry <= 15 ? entry : match.assignment.getOrDefault(entry - 17, 0);
            }
            tags++;
            elements.put(tags, element);
        }
    }
}
