import java.util.ArrayList;
import java.util.Arrays;
import java.util.HashMap;
import java.util.List;
import java.util.Map;
import java.util.TreeSet;

/** Long runs of made-up calls, each answer compared with a model that follows the document's words. */
public final class ReteEngineAgainstModel {
    private static final int RUNS = 400;
    private static final int CALLS = 512;

    private static final class Fact {
        final int kind;
        final int a;
        final int b;

        Fact(int kind, int a, int b) {
            this.kind = kind;
            this.a = a;
            this.b = b;
        }
    }

    private static final class Condition {
        final int kind;
        final int onA;
        final int onB;
        final boolean negated;

        Condition(int what) {
            negated = what / 256 == 1;
            onB = what % 256 / 32;
            onA = what % 32 / 4;
            kind = what % 4;
        }
    }

    private static final class Model {
        final Map<Integer, Fact> facts = new HashMap<>();
        final List<List<Condition>> rules = new ArrayList<>();

        Model() {
            for (int r = 0; r < 3; r++) {
                rules.add(new ArrayList<>());
            }
        }

        static boolean meets(int demand, int value, Map<Integer, Integer> variables) {
            if (demand == 7) {
                return true;
            }
            if (demand <= 3) {
                return demand == value;
            }
            variables.putIfAbsent(demand, value);
            return variables.get(demand) == value;
        }

        static boolean fits(Condition c, Fact fact, Map<Integer, Integer> variables) {
            return c.kind == fact.kind && meets(c.onA, fact.a, variables) && meets(c.onB, fact.b, variables);
        }

        void goOn(List<Condition> rule, int i, Map<Integer, Integer> variables, int number, TreeSet<Integer> found) {
            if (i == rule.size()) {
                found.add(number);
                return;
            }
            Condition c = rule.get(i);
            if (c.negated) {
                for (Fact fact : facts.values()) {
                    if (fits(c, fact, new HashMap<>(variables))) {
                        return;
                    }
                }
                goOn(rule, i + 1, variables, number, found);
                return;
            }
            for (Map.Entry<Integer, Fact> entry : facts.entrySet()) {
                Map<Integer, Integer> bound = new HashMap<>(variables);
                if (fits(c, entry.getValue(), bound)) {
                    int place = (int) Math.pow(8, i);
                    goOn(rule, i + 1, bound, number + (entry.getKey() - 7) * place, found);
                }
            }
        }

        TreeSet<Integer> found(List<Condition> rule) {
            TreeSet<Integer> found = new TreeSet<>();
            goOn(rule, 0, new HashMap<>(), 511, found);
            return found;
        }

        boolean isRule(int r) {
            return 0 <= r && r <= 2;
        }

        boolean isFactForm(int kind, int a, int b) {
            return 0 <= kind && kind <= 2 && 0 <= a && a <= 3 && 0 <= b && b <= 3;
        }

        int condition(int r, int what) {
            if (!isRule(r) || what < 0 || what > 511 || what % 4 == 3) {
                return -1;
            }
            if (rules.get(r).size() == 3) {
                return -2;
            }
            rules.get(r).add(new Condition(what));
            return rules.get(r).size();
        }

        int drop(int r) {
            if (!isRule(r) || rules.get(r).isEmpty()) {
                return -1;
            }
            rules.get(r).remove(rules.get(r).size() - 1);
            return rules.get(r).size();
        }

        int add(int kind, int a, int b) {
            if (!isFactForm(kind, a, b)) {
                return -1;
            }
            if (facts.size() == 7) {
                return -2;
            }
            int f = 0;
            while (facts.containsKey(f)) {
                f++;
            }
            facts.put(f, new Fact(kind, a, b));
            return f;
        }

        int remove(int f) {
            return facts.remove(f) == null ? 0 : 1;
        }

        int facts() {
            int bits = 0;
            for (int f : facts.keySet()) {
                bits += 1 << f;
            }
            return bits;
        }

        int matches(int r) {
            return isRule(r) ? found(rules.get(r)).size() : -1;
        }

        int match(int r, int k) {
            if (!isRule(r)) {
                return -1;
            }
            List<Integer> numbers = new ArrayList<>(found(rules.get(r)));
            return 0 <= k && k < numbers.size() ? numbers.get(k) : -1;
        }

        int ready() {
            int bits = 0;
            for (int r = 0; r < 3; r++) {
                bits += matches(r) > 0 ? 1 << r : 0;
            }
            return bits;
        }

        int uses(int f) {
            if (!facts.containsKey(f)) {
                return -1;
            }
            int count = 0;
            for (List<Condition> rule : rules) {
                for (int number : found(rule)) {
                    if (number % 8 == f || number / 8 % 8 == f || number / 64 == f) {
                        count++;
                    }
                }
            }
            return count;
        }

        int fitting(int r, int i) {
            if (!isRule(r) || i < 0 || i >= rules.get(r).size()) {
                return -1;
            }
            Condition c = rules.get(r).get(i);
            int count = 0;
            for (Fact fact : facts.values()) {
                boolean aFits = c.onA > 3 || c.onA == fact.a;
                boolean bFits = c.onB > 3 || c.onB == fact.b;
                if (c.kind == fact.kind && aFits && bFits) {
                    count++;
                }
            }
            return count;
        }

        int partial(int r, int n) {
            if (!isRule(r) || n < 0 || n > rules.get(r).size()) {
                return -1;
            }
            return found(rules.get(r).subList(0, n)).size();
        }

        int effect(int r, int kind, int a, int b) {
            if (!isRule(r) || !isFactForm(kind, a, b) || facts.size() == 7) {
                return -1000;
            }
            int before = matches(r);
            int f = add(kind, a, b);
            int after = matches(r);
            remove(f);
            return after - before;
        }
    }

    private static int wrong = 0;

    // A fixed sequence, so that every run of this test makes the same calls.
    private static long seed;

    private static int below(int bound) {
        seed = seed * 6364136223846793005L + 1442695040888963407L;
        return (int) ((seed >>> 33) % bound);
    }

    /** Mostly from 0 to most, now and then just outside or far off. */
    private static int about(int most) {
        int[] outside = {-1, most + 1, most + 8, -most - 2, Integer.MAX_VALUE, Integer.MIN_VALUE};
        return below(25) == 0 ? outside[below(outside.length)] : below(most + 1);
    }

    /** Mostly variables and few values, so that conditions have much to do with each other. */
    private static int someCondition(int kinds) {
        if (below(20) == 0) {
            return about(511);
        }
        int onA = below(4) == 0 ? below(8) : 4 + below(4);
        int onB = below(4) == 0 ? below(8) : 4 + below(4);
        return below(kinds) + 4 * onA + 32 * onB + (below(3) == 0 ? 256 : 0);
    }

    private static int someKind(int kinds) {
        return below(25) == 0 ? about(2) : below(kinds);
    }

    private static int someValue(int values) {
        return below(25) == 0 ? about(3) : below(values);
    }

    private static void due(int run, int step, String call, int[] with, int got, int want) {
        if (got != want) {
            wrong++;
            if (wrong <= 20) {
                System.out.println("run " + run + ", call " + step + ": " + call + Arrays.toString(with)
                    + " answered " + got + ", due is " + want);
            }
        }
    }

    private static void call(ReteEngine x, Model model, int run, int step) {
        int kinds = 1 + run % 3;
        int values = 2 + run / 3 % 3;
        int r = about(2);
        int n = about(3);
        int f = about(6);
        int k = below(3) == 0 ? about(342) : about(6);
        int what = someCondition(kinds);
        int kind = someKind(kinds);
        int a = someValue(values);
        int b = someValue(values);
        int[] with = {r, n, f, k, what, kind, a, b};
        switch (below(16)) {
            case 0, 1 -> due(run, step, "condition", with, x.condition(r, what), model.condition(r, what));
            case 2 -> due(run, step, "drop", with, x.drop(r), model.drop(r));
            case 3, 4, 5 -> due(run, step, "add", with, x.add(kind, a, b), model.add(kind, a, b));
            case 6 -> due(run, step, "remove", with, x.remove(f) ? 1 : 0, model.remove(f));
            case 7 -> due(run, step, "facts", with, x.facts(), model.facts());
            case 8 -> due(run, step, "matches", with, x.matches(r), model.matches(r));
            case 9 -> due(run, step, "match", with, x.match(r, k), model.match(r, k));
            case 10 -> due(run, step, "ready", with, x.ready(), model.ready());
            case 11 -> due(run, step, "uses", with, x.uses(f), model.uses(f));
            case 12 -> due(run, step, "fitting", with, x.fitting(r, n), model.fitting(r, n));
            case 13 -> due(run, step, "partial", with, x.partial(r, n), model.partial(r, n));
            default -> due(run, step, "effect", with, x.effect(r, kind, a, b), model.effect(r, kind, a, b));
        }
    }

    public static void main(String[] args) {
        for (int run = 0; run < RUNS; run++) {
            seed = run;
            ReteEngine x = new ReteEngine();
            Model model = new Model();
            for (int step = 1; step <= CALLS; step++) {
                call(x, model, run, step);
            }
        }
        System.out.println(wrong == 0 ? "all answers are the model's" : wrong + " answers are not the model's");
        if (wrong != 0) {
            System.exit(1);
        }
    }
}
