import java.util.TreeMap;

/** All promises at once: long runs of mixed calls, every answer compared with that of the model. */
public final class ModelTest {
    private static final int RUNS = 300;
    private static final int CALLS = 512;

    private static Numbers numbers;
    /** How often each kind of answer came, so that a run that reaches too little is noticed. */
    private static final TreeMap<String, Integer> seen = new TreeMap<>();

    public static void main(String[] args) {
        for (int run = 0; run < RUNS; run++) {
            numbers = new Numbers(1000003L * run + 17);
            oneRun(run);
        }
        everyAnswerWasSeen();
        Due.end();
    }

    private static void oneRun(int run) {
        RuleMatcher x = new RuleMatcher();
        Model model = new Model();
        // Some runs have few removals and no making actions, so that twelve elements and forty firings are reached.
        int style = run % 3;
        for (int i = 0; i < CALLS; i++) {
            Due.part("run " + run + ", call " + i);
            oneCall(x, model, style);
        }
    }

    private static void oneCall(RuleMatcher x, Model m, int style) {
        int wheel = below(100);
        if (wheel < 16) {
            int type = type();
            int fields = fields();
            answer("make", x.make(type, fields), m.make(type, fields));
        } else if (wheel < (style == 0 ? 17 : 26)) {
            int tag = tag(m);
            answer("remove", x.remove(tag), m.remove(tag));
        } else if (wheel < 42) {
            int pattern = pattern();
            int negative = below(4) == 0 ? below(5) - 2 : 0;
            answer("condition", x.condition(pattern, negative), m.condition(pattern, negative));
        } else if (wheel < 52) {
            int action = action(style);
            answer("rule", x.rule(action), m.rule(action));
        } else if (wheel < 53) {
            if (below(style == 0 ? 6 : 2) == 0) {
                answer("clearRules", x.clearRules(), m.clearRules());
            }
        } else if (wheel < 63) {
            answer("fire", x.fire(), m.fire());
        } else if (wheel < 67) {
            int count = below(style == 0 ? 34 : 6) - 1;
            answer("run", x.run(count), m.run(count));
        } else {
            question(x, m, wheel);
        }
    }

    private static void question(RuleMatcher x, Model m, int wheel) {
        int number = below(7) - 1;
        int tag = tag(m);
        int pattern = pattern();
        if (wheel < 72) {
            answer("matches", x.matches(number), m.matches(number));
        } else if (wheel < 78) {
            answer("open", x.open(), m.open());
        } else if (wheel < 83) {
            answer("firstRule", x.firstRule(), m.firstRule());
        } else if (wheel < 90) {
            answer("firstTag", x.firstTag(number), m.firstTag(number));
        } else if (wheel < 92) {
            answer("elements", x.elements(), m.elements());
        } else if (wheel < 93) {
            answer("rules", x.rules(), m.rules());
        } else if (wheel < 95) {
            answer("exists", x.exists(tag), m.exists(tag));
        } else if (wheel < 97) {
            answer("contents", x.contents(tag), m.contents(tag));
        } else {
            answer("fitting", x.fitting(pattern), m.fitting(pattern));
        }
    }

    private static void answer(String call, int got, int want) {
        Due.due(call, got, want);
        seen.merge(call + " " + (want < 0 ? want : "done"), 1, Integer::sum);
    }

    private static void everyAnswerWasSeen() {
        Due.part("answers seen");
        String[] wanted = {"make -1", "make -2", "make -3", "make done", "remove -1", "remove done", "condition -1",
            "condition -2", "condition -3", "condition done", "rule -1", "rule -2", "rule -3", "rule -4", "rule done",
            "clearRules done", "matches -1", "matches done", "open done", "firstRule -1", "firstRule done",
            "firstTag -1", "firstTag -2", "firstTag done", "fire -1", "fire -2", "fire done", "run -1", "run done",
            "fitting -1", "fitting done", "exists done", "contents -1", "contents done"};
        for (String name : wanted) {
            Due.due("'" + name + "' came 20 times", seen.getOrDefault(name, 0) >= 20 ? 1 : 0, 1);
        }
    }

    private static int below(int bound) {
        return numbers.below(bound);
    }

    private static int type() {
        return below(30) == 0 ? below(2) * 5 - 1 : below(4) == 0 ? below(4) : below(2);
    }

    private static int fields() {
        if (below(30) == 0) {
            return below(2) * 4097 - 1;
        }
        return below(10) == 0 ? below(4096) : Due.fields(below(3), below(3), below(3));
    }

    private static int tag(Model m) {
        return below(10) == 0 ? below(3) - 1 : below(Math.max(4, m.elements() + 6)) + lowestTag(m) - 2;
    }

    private static int lowestTag(Model m) {
        for (int tag = 1; tag < 20000; tag++) {
            if (m.exists(tag) == 1) {
                return tag;
            }
        }
        return 1;
    }

    private static int pattern() {
        if (below(30) == 0) {
            return below(2) * 32001 - 1;
        }
        int type = below(4) == 0 ? below(4) : below(2);
        return Due.pattern(type, entry(), entry(), entry());
    }

    private static int entry() {
        int wheel = below(10);
        return wheel < 3 ? Due.ANY : wheel < 8 ? Due.X + below(3) : wheel < 9 ? below(3) : below(20);
    }

    private static int action(int style) {
        int wheel = below(12);
        if (wheel == 0) {
            return below(2) * 32005 - 1;
        }
        if (wheel < 5 || style == 0 && wheel < 10) {
            return 0;
        }
        if (wheel < 8) {
            return 1 + below(3);
        }
        return 4 + Due.pattern(below(4) == 0 ? below(4) : below(2), entry(), entry(), entry());
    }
}
