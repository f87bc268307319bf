/** At least one test for each promise: ordinary inputs, the edges that the document names, wrong inputs. */
public final class ReteEnginePromises {
    private static final int NONE = -1;
    private static final int FULL = -2;
    private static final int REFUSED = -1000;

    /** Demands beside the numbers 0 .. 3. */
    private static final int X = 4;
    private static final int Y = 5;
    private static final int Z = 6;
    private static final int ANY = 7;

    /** Numbers that are never a rule, a fact, a kind, a value or a place in a rule. */
    private static final int[] NEVER = {-1, -2, -8, 7, 8, 32, 64, 1 << 30, Integer.MAX_VALUE, Integer.MIN_VALUE};

    private static int wrong = 0;
    private static String promise = "";

    public static void main(String[] args) {
        newObject();
        condition();
        drop();
        add();
        remove();
        facts();
        matches();
        negatedConditions();
        match();
        ready();
        uses();
        fitting();
        partial();
        effect();
        orderAndLimits();
        System.out.println(wrong == 0 ? "all promises hold" : wrong + " answers are not as due");
        if (wrong != 0) {
            System.exit(1);
        }
    }

    private static void due(String call, int got, int want) {
        if (got != want) {
            wrong++;
            System.out.println(promise + ": " + call + " answered " + got + ", due is " + want);
        }
    }

    private static void due(String call, boolean got, boolean want) {
        due(call, got ? 1 : 0, want ? 1 : 0);
    }

    private static int demand(int kind, int a, int b) {
        return kind + 4 * a + 32 * b;
    }

    private static int not(int kind, int a, int b) {
        return 256 + demand(kind, a, b);
    }

    private static int number(int f0, int f1, int f2) {
        return f0 + 8 * f1 + 64 * f2;
    }

    private static ReteEngine withRule(int... conditions) {
        ReteEngine x = new ReteEngine();
        for (int what : conditions) {
            x.condition(0, what);
        }
        return x;
    }

    private static void fill(ReteEngine x) {
        for (int f = 0; f < 7; f++) {
            x.add(0, 0, 0);
        }
    }

    private static void newObject() {
        promise = "promise 1";
        due("NONE", ReteEngine.NONE, NONE);
        due("FULL", ReteEngine.FULL, FULL);
        ReteEngine x = new ReteEngine();
        due("facts", x.facts(), 0);
        due("ready", x.ready(), 7);
        for (int r = 0; r < 3; r++) {
            due("matches", x.matches(r), 1);
            due("match", x.match(r, 0), 511);
            due("partial of nothing", x.partial(r, 0), 1);
            due("partial of one", x.partial(r, 1), NONE);
            due("fitting", x.fitting(r, 0), NONE);
            due("drop", x.drop(r), NONE);
        }
        for (int f = 0; f < 7; f++) {
            due("uses", x.uses(f), NONE);
        }
        x.add(0, 0, 0);
        x.condition(0, 0);
        ReteEngine other = new ReteEngine();
        due("facts of another object", other.facts(), 0);
        due("conditions of another object", other.drop(0), NONE);
    }

    private static void condition() {
        promise = "promise 2";
        for (int what = 0; what < 512; what++) {
            ReteEngine fresh = new ReteEngine();
            due("condition of form " + what, fresh.condition(1, what), what % 4 == 3 ? NONE : 1);
            due("conditions after form " + what, fresh.drop(1), what % 4 == 3 ? NONE : 0);
        }
        ReteEngine x = new ReteEngine();
        for (int what : new int[] {-1, -4, -256, 512, 513, 1024, Integer.MAX_VALUE, Integer.MIN_VALUE}) {
            due("condition of form " + what, x.condition(1, what), NONE);
        }
        for (int r : NEVER) {
            due("condition of rule " + r, x.condition(r, 0), NONE);
        }
        due("condition of rule 3", x.condition(3, 0), NONE);
        due("conditions after refusals", x.drop(1), NONE);
        for (int r = 0; r < 3; r++) {
            due("first condition", x.condition(r, demand(r, ANY, ANY)), 1);
            due("second condition", x.condition(r, demand(r, 1, ANY)), 2);
            due("third condition", x.condition(r, demand(r, ANY, 2)), 3);
            due("fourth condition", x.condition(r, 0), FULL);
        }
        x.add(1, 1, 0);
        x.add(1, 0, 2);
        due("conditions stand in order", x.matches(1), 2);
        due("a full rule keeps its conditions", x.match(1, 0), number(0, 0, 1));
        due("a rule gets no other rule's conditions", x.matches(0), 0);
    }

    private static void drop() {
        promise = "promise 3";
        ReteEngine x = withRule(demand(0, ANY, ANY), demand(0, 1, ANY), demand(0, 2, ANY));
        x.condition(1, demand(0, 3, 3));
        x.add(0, 1, 1);
        due("matches of three", x.matches(0), 0);
        due("drop to two", x.drop(0), 2);
        due("matches of two", x.matches(0), 1);
        due("match of two", x.match(0, 0), number(0, 0, 7));
        due("dropped condition", x.fitting(0, 2), NONE);
        due("a new condition takes its place", x.condition(0, not(0, 1, 1)), 3);
        due("matches with it", x.matches(0), 0);
        due("drop to two again", x.drop(0), 2);
        due("drop to one", x.drop(0), 1);
        due("drop to none", x.drop(0), 0);
        due("matches of none", x.matches(0), 1);
        due("drop of none", x.drop(0), NONE);
        due("drop of none again", x.drop(0), NONE);
        due("condition after it", x.condition(0, 0), 1);
        for (int r : NEVER) {
            due("drop of rule " + r, x.drop(r), NONE);
        }
        due("drop of rule 3", x.drop(3), NONE);
        due("another rule stays", x.drop(1), 0);
        due("facts stay", x.facts(), 1);
    }

    private static void add() {
        promise = "promise 4";
        ReteEngine x = new ReteEngine();
        for (int bad : NEVER) {
            due("add of kind " + bad, x.add(bad, 0, 0), NONE);
            due("add of a " + bad, x.add(0, bad, 0), NONE);
            due("add of b " + bad, x.add(0, 0, bad), NONE);
        }
        due("add of kind 3", x.add(3, 0, 0), NONE);
        due("add of a 4", x.add(0, 4, 0), NONE);
        due("add of b 4", x.add(0, 0, 4), NONE);
        due("facts after refusals", x.facts(), 0);
        for (int f = 0; f < 7; f++) {
            due("add", x.add(2, 3, 3), f);
        }
        due("add of an eighth", x.add(2, 3, 3), FULL);
        due("facts after an eighth", x.facts(), 127);
        x.remove(5);
        x.remove(2);
        x.remove(6);
        due("add in the least gap", x.add(1, 0, 3), 2);
        due("add in the next gap", x.add(0, 3, 0), 5);
        due("add at the end", x.add(0, 0, 0), 6);
        due("add when full again", x.add(0, 0, 0), FULL);
        everyFactIsKept();
    }

    private static void everyFactIsKept() {
        for (int form = 0; form < 48; form++) {
            int kind = form / 16;
            int a = form / 4 % 4;
            int b = form % 4;
            ReteEngine x = withRule(demand(kind, a, b));
            due("add of " + form, x.add(kind, a, b), 0);
            due("matches of just this fact", x.matches(0), 1);
            x.remove(0);
            x.add((kind + 1) % 3, a, b);
            x.add(kind, (a + 1) % 4, b);
            x.add(kind, a, (b + 1) % 4);
            due("matches of other facts", x.matches(0), 0);
        }
    }

    private static void remove() {
        promise = "promise 5";
        ReteEngine x = withRule(demand(0, ANY, ANY));
        fill(x);
        for (int f : NEVER) {
            due("remove of " + f, x.remove(f), false);
        }
        due("facts after refusals", x.facts(), 127);
        for (int f = 6; f >= 0; f--) {
            due("remove of " + f, x.remove(f), true);
            due("facts without it", x.facts(), (1 << f) - 1);
            due("matches without it", x.matches(0), f);
            due("remove again", x.remove(f), false);
            due("facts then", x.facts(), (1 << f) - 1);
        }
        x.add(0, 0, 0);
        x.add(1, 1, 1);
        due("remove of one of two", x.remove(0), true);
        due("the other stays", x.facts(), 2);
        due("matches of the taken kind", x.matches(0), 0);
    }

    private static void facts() {
        promise = "promise 6";
        ReteEngine x = new ReteEngine();
        for (int f = 0; f < 7; f++) {
            x.add(f % 3, f % 4, 0);
            due("facts", x.facts(), (2 << f) - 1);
        }
        x.remove(0);
        x.remove(3);
        due("facts without 0 and 3", x.facts(), 127 - 1 - 8);
        x.add(0, 0, 0);
        due("facts without 3", x.facts(), 127 - 8);
        x.effect(0, 0, 0, 0);
        due("facts after effect", x.facts(), 127 - 8);
    }

    private static void matches() {
        promise = "promise 7";
        ReteEngine x = withRule(demand(0, X, Y), demand(0, Y, Z), demand(0, Z, X));
        x.add(0, 0, 1);
        x.add(0, 1, 2);
        due("matches of an open chain", x.matches(0), 0);
        x.add(0, 2, 0);
        due("matches of a ring, begun anywhere", x.matches(0), 3);
        x.add(0, 3, 3);
        due("one fact in all places", x.matches(0), 4);
        x.add(0, 3, 3);
        due("facts that are alike count each", x.matches(0), 3 + 8);
        for (int r : NEVER) {
            due("matches of rule " + r, x.matches(r), NONE);
        }
        due("matches of rule 3", x.matches(3), NONE);
        due("matches of an empty rule", x.matches(1), 1);

        ReteEngine twice = withRule(demand(1, Z, Z));
        twice.add(1, 2, 1);
        due("a variable twice with two values", twice.matches(0), 0);
        twice.add(1, 2, 2);
        due("a variable twice with one value", twice.matches(0), 1);
        twice.condition(0, demand(1, ANY, Z));
        due("a variable bound before", twice.match(0, 0), number(1, 1, 7));
        due("a bound variable fits only its value", twice.matches(0), 1);

        ReteEngine zero = withRule(demand(0, X, ANY), demand(1, X, ANY));
        zero.add(0, 0, 0);
        zero.add(1, 1, 0);
        due("a variable bound to 0 is bound", zero.matches(0), 0);
        zero.add(1, 0, 3);
        due("a variable bound to 0 fits 0", zero.match(0, 0), number(0, 2, 7));

        for (int variable = X; variable <= Z; variable++) {
            for (int other = X; other <= Z; other++) {
                ReteEngine pair = withRule(demand(0, variable, other), demand(0, other, variable));
                pair.add(0, 3, 1);
                pair.add(0, 1, 3);
                due("two variables the other way round", pair.matches(0), variable == other ? 0 : 2);
            }
        }

        ReteEngine most = withRule(demand(0, ANY, ANY), demand(0, ANY, ANY), demand(0, X, Y));
        fill(most);
        due("the most matches", most.matches(0), 343);
    }

    private static void negatedConditions() {
        promise = "promise 7, negated";
        ReteEngine first = withRule(not(0, X, X), demand(0, X, Y));
        first.add(0, 1, 2);
        due("an unbound variable twice, values not equal", first.matches(0), 1);
        due("its number", first.match(0, 0), number(7, 0, 7));
        first.add(0, 3, 3);
        due("an unbound variable twice, values equal", first.matches(0), 0);

        ReteEngine anew = withRule(not(1, X, X), demand(0, X, ANY));
        anew.add(1, 0, 1);
        anew.add(1, 1, 0);
        anew.add(0, 2, 0);
        anew.add(0, 3, 0);
        due("bound for each fact anew, unbound after it", anew.matches(0), 2);

        ReteEngine bound = withRule(demand(0, X, Y), not(1, Y, X), demand(2, Z, X));
        bound.add(0, 1, 2);
        bound.add(1, 1, 2);
        bound.add(2, 0, 1);
        due("no fact fits the bound variables", bound.matches(0), 1);
        due("its number", bound.match(0, 0), number(0, 7, 2));
        bound.add(1, 2, 1);
        due("a fact fits the bound variables", bound.matches(0), 0);

        ReteEngine half = withRule(demand(0, X, ANY), not(1, X, Y));
        half.add(0, 1, 0);
        half.add(1, 2, 3);
        due("one variable bound, one not, none fits", half.matches(0), 1);
        half.add(1, 1, 3);
        due("one variable bound, one not, one fits", half.matches(0), 0);

        ReteEngine later = withRule(not(0, X, 1), demand(0, X, 2));
        later.add(0, 3, 2);
        due("nothing bound later counts", later.matches(0), 1);
        later.add(0, 0, 1);
        due("a fact with another value counts", later.matches(0), 0);

        ReteEngine all = withRule(not(0, 0, ANY), not(1, ANY, 0), not(2, 3, 3));
        due("three negated, no facts", all.match(0, 0), 511);
        all.add(0, 1, 0);
        all.add(1, 0, 1);
        all.add(2, 3, 2);
        due("three negated, nothing fits", all.matches(0), 1);
        all.add(2, 3, 3);
        due("three negated, the last fits", all.matches(0), 0);
    }

    private static void match() {
        promise = "promise 8";
        ReteEngine x = withRule(demand(0, ANY, ANY), demand(1, ANY, ANY));
        x.add(1, 0, 0);
        x.add(0, 0, 0);
        x.add(1, 0, 0);
        x.add(0, 0, 0);
        due("match 0", x.match(0, 0), number(1, 0, 7));
        due("match 1", x.match(0, 1), number(3, 0, 7));
        due("match 2", x.match(0, 2), number(1, 2, 7));
        due("match 3", x.match(0, 3), number(3, 2, 7));
        due("match 4", x.match(0, 4), NONE);
        for (int k : NEVER) {
            due("match " + k, x.match(0, k), NONE);
            due("match of rule " + k, x.match(k, 0), NONE);
        }
        due("match of rule 3", x.match(3, 0), NONE);
        due("match of an empty rule", x.match(2, 0), 511);
        due("second match of an empty rule", x.match(2, 1), NONE);

        ReteEngine most = withRule(demand(0, ANY, ANY), demand(0, ANY, ANY), demand(0, ANY, ANY));
        fill(most);
        for (int k = 0; k < 343; k++) {
            due("match " + k, most.match(0, k), number(k % 7, k / 7 % 7, k / 49));
        }
        due("match 343", most.match(0, 343), NONE);

        ReteEngine middle = withRule(demand(0, ANY, ANY), not(1, ANY, ANY), demand(0, ANY, ANY));
        middle.add(0, 0, 0);
        due("7 for a negated condition", middle.match(0, 0), number(0, 7, 0));
    }

    private static void ready() {
        promise = "promise 9";
        ReteEngine x = new ReteEngine();
        for (int r = 0; r < 3; r++) {
            x.condition(r, demand(r, ANY, ANY));
        }
        due("ready without facts", x.ready(), 0);
        for (int rules = 0; rules < 8; rules++) {
            for (int r = 0; r < 3; r++) {
                if ((rules >> r & 1) == 1) {
                    x.add(r, 0, 0);
                    x.add(r, 0, 0);
                }
            }
            due("ready", x.ready(), rules);
            for (int f = 0; f < 7; f++) {
                x.remove(f);
            }
        }
        x.drop(1);
        due("an empty rule is ready", x.ready(), 2);
        x.condition(1, not(0, 1, 1));
        due("a negated condition that nothing fits", x.ready(), 2);
        x.add(0, 1, 1);
        due("a negated condition that a fact fits", x.ready(), 1);
    }

    private static void uses() {
        promise = "promise 10";
        ReteEngine x = withRule(demand(0, ANY, ANY), demand(0, ANY, ANY));
        x.condition(1, demand(0, 1, ANY));
        x.add(0, 0, 0);
        x.add(0, 1, 0);
        x.add(1, 1, 0);
        due("uses of 0, the empty rule's match has no facts", x.uses(0), 3);
        due("uses of 1, of two rules", x.uses(1), 4);
        due("uses of 2", x.uses(2), 0);
        due("uses of 3", x.uses(3), NONE);
        for (int f : NEVER) {
            due("uses of " + f, x.uses(f), NONE);
        }
        x.condition(2, demand(1, ANY, 0));
        due("uses of 2 by the last rule", x.uses(2), 1);
        x.drop(2);
        x.condition(2, not(1, ANY, 0));
        due("a negated condition uses no fact", x.uses(2), 0);
        x.remove(0);
        due("uses of a fact taken away", x.uses(0), NONE);
        due("a fact twice in one match counts once", x.uses(1), 2);

        ReteEngine last = withRule(demand(0, ANY, ANY), demand(0, ANY, ANY), demand(1, ANY, ANY));
        last.add(0, 0, 0);
        last.add(0, 0, 0);
        last.add(1, 0, 0);
        due("uses in the last place", last.uses(2), 4);
        due("uses in the first two places", last.uses(1), 3);
        fill(last);
        due("uses of fact 6", last.uses(6), 36 - 25);

        ReteEngine alone = withRule(demand(0, ANY, ANY), demand(0, ANY, ANY), demand(0, ANY, ANY));
        alone.add(0, 0, 0);
        due("one fact in all three places counts once", alone.uses(0), 1);
    }

    private static void fitting() {
        promise = "promise 11";
        ReteEngine x = withRule(demand(0, X, X), not(0, 1, X), demand(0, ANY, 2));
        x.condition(2, demand(0, 1, 2));
        x.condition(2, demand(0, Z, Y));
        x.add(0, 1, 2);
        x.add(0, 1, 1);
        x.add(0, 3, 2);
        x.add(1, 1, 2);
        x.add(0, 1, 2);
        due("a variable twice fits anything", x.fitting(0, 0), 4);
        due("a negated condition", x.fitting(0, 1), 3);
        due("a demand on b", x.fitting(0, 2), 3);
        due("both demands", x.fitting(2, 0), 2);
        due("two variables", x.fitting(2, 1), 4);
        due("no such condition", x.fitting(2, 2), NONE);
        due("no condition at all", x.fitting(1, 0), NONE);
        due("condition 3", x.fitting(0, 3), NONE);
        due("rule 3", x.fitting(3, 0), NONE);
        for (int bad : NEVER) {
            due("condition " + bad, x.fitting(0, bad), NONE);
            due("rule " + bad, x.fitting(bad, 0), NONE);
        }
        x.remove(4);
        due("without a fact", x.fitting(2, 0), 1);
        x.remove(0);
        due("without facts", x.fitting(2, 0), 0);
        x.drop(2);
        due("a dropped condition", x.fitting(2, 1), NONE);
    }

    private static void partial() {
        promise = "promise 12";
        ReteEngine x = withRule(demand(0, X, ANY), demand(1, ANY, X), not(1, X, X));
        x.add(0, 1, 0);
        x.add(0, 2, 0);
        x.add(0, 2, 3);
        x.add(1, 0, 2);
        x.add(1, 2, 2);
        x.add(1, 0, 1);
        due("partial of 0", x.partial(0, 0), 1);
        due("partial of 1", x.partial(0, 1), 3);
        due("partial of 2", x.partial(0, 2), 1 + 2 + 2);
        due("partial of 3", x.partial(0, 3), 1);
        due("all conditions are the rule", x.matches(0), 1);
        due("partial of 4", x.partial(0, 4), NONE);
        due("partial of nothing in an empty rule", x.partial(1, 0), 1);
        due("partial beyond an empty rule", x.partial(1, 1), NONE);
        due("partial of rule 3", x.partial(3, 0), NONE);
        for (int bad : NEVER) {
            due("partial of " + bad, x.partial(0, bad), NONE);
            due("partial of rule " + bad, x.partial(bad, 0), NONE);
        }
        x.drop(0);
        due("partial of 3 after drop", x.partial(0, 3), NONE);
        due("partial of 2 after drop", x.partial(0, 2), 5);

        ReteEngine negated = withRule(not(0, 0, 0), demand(0, ANY, ANY));
        negated.add(0, 0, 0);
        due("partial of a negated condition that fits", negated.partial(0, 1), 0);
        due("partial of none before it", negated.partial(0, 0), 1);
    }

    private static void effect() {
        promise = "promise 13";
        ReteEngine x = withRule(demand(0, X, Y), demand(0, Y, ANY), not(1, X, X));
        x.condition(1, demand(0, 2, 2));
        x.add(0, 0, 1);
        x.add(0, 1, 0);
        due("matches before", x.matches(0), 2);
        due("a fact that fits more", x.effect(0, 0, 0, 0), 3);
        due("a fact that fits itself", x.effect(0, 0, 3, 3), 1);
        due("a fact that stops matches", x.effect(0, 1, 0, 0), -1);
        due("a fact that fits nothing", x.effect(0, 2, 0, 0), 0);
        due("a fact for another rule", x.effect(1, 0, 2, 2), 1);
        due("an empty rule", x.effect(2, 0, 2, 2), 0);
        due("facts stay", x.facts(), 3);
        due("matches stay", x.matches(0), 2);
        due("the number stays free", x.add(0, 0, 0), 2);
        due("the effect comes true", x.matches(0), 5);
        for (int bad : NEVER) {
            due("rule " + bad, x.effect(bad, 0, 0, 0), REFUSED);
            due("kind " + bad, x.effect(0, bad, 0, 0), REFUSED);
            due("a " + bad, x.effect(0, 0, bad, 0), REFUSED);
            due("b " + bad, x.effect(0, 0, 0, bad), REFUSED);
        }
        due("rule 3", x.effect(3, 0, 0, 0), REFUSED);
        due("kind 3", x.effect(0, 3, 0, 0), REFUSED);
        due("a 4", x.effect(0, 0, 4, 0), REFUSED);
        due("b 4", x.effect(0, 0, 0, 4), REFUSED);
        for (int f = 3; f < 7; f++) {
            due("with room for one more", x.effect(2, 0, 0, 0), 0);
            x.add(2, 0, 0);
        }
        due("seven facts", x.effect(2, 0, 0, 0), REFUSED);

        ReteEngine most = withRule(demand(0, ANY, ANY), demand(0, ANY, ANY), demand(0, ANY, ANY));
        fill(most);
        most.remove(4);
        due("the greatest effect", most.effect(0, 0, 0, 0), 343 - 216);
        due("facts with a gap stay", most.facts(), 127 - 16);
        most.drop(0);
        most.condition(0, not(1, ANY, ANY));
        due("the least effect of six", most.effect(0, 1, 0, 0), -36);
    }

    private static void orderAndLimits() {
        promise = "promise 14";
        ReteEngine x = withRule(0, 0, 0);
        fill(x);
        due("full rule, wrong form", x.condition(0, 3), NONE);
        due("full rule, form below 0", x.condition(0, -1), NONE);
        due("full rule, form too great", x.condition(0, 512), NONE);
        due("full rule, right form", x.condition(0, 510), FULL);
        due("seven facts, wrong kind", x.add(3, 0, 0), NONE);
        due("seven facts, wrong a", x.add(0, 4, 0), NONE);
        due("seven facts, wrong b", x.add(0, 0, -1), NONE);
        due("seven facts, right form", x.add(2, 3, 3), FULL);
        due("refusals change no rule", x.matches(0), 343);
        due("refusals change no fact", x.facts(), 127);
    }
}
