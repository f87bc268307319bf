import java.lang.reflect.InvocationTargetException;
import java.lang.reflect.Method;
import java.lang.reflect.Modifier;
import java.util.Comparator;
import java.util.List;
import java.util.stream.Stream;

/**
 * For each sentence of the document that names a boundary case a test of its own.
 * A test is a method whose name begins with the part of the document that it holds to.
 */
public final class ReteEngineBoundaries {
    private static final List<String> PARTS = List.of("whatItIs_", "face_", "terms_", "promise");

    private static final int NONE = -1;
    private static final int FULL = -2;
    private static final int EFFECT_REFUSED = -1000;

    /** Demands beside the numbers 0 .. 3. */
    private static final int X = 4;
    private static final int Y = 5;
    private static final int Z = 6;
    private static final int ANY = 7;

    private static final int[] TOO_SMALL = {
        -1, -2, -3, -4, -7, -8, -32, -64, -256, -512, -65536,
        -1431655765, // three times this wraps around to 1
        Integer.MIN_VALUE + 1, Integer.MIN_VALUE,
    };

    /** Too large for a rule, a fact, a kind, a value and a place in a rule alike. */
    private static final int[] FAR_TOO_LARGE = {
        8, 9, 31, 32, 33, 38, 64, 127, 128, 256, 257, 512, 65536, 65537, 1 << 30,
        1431655766, // three times this wraps around to 2
        Integer.MAX_VALUE - 1, Integer.MAX_VALUE,
    };

    private static String test = "";
    private static int wrong = 0;

    public static void main(String[] args) {
        List<Method> tests = Stream.of(ReteEngineBoundaries.class.getDeclaredMethods())
            .filter(method -> !method.isSynthetic() && Modifier.isStatic(method.getModifiers()))
            .filter(method -> PARTS.stream().anyMatch(method.getName()::startsWith))
            .sorted(Comparator.comparing(Method::getName))
            .toList();
        int failed = 0;
        for (Method method : tests) {
            failed += holds(method) ? 0 : 1;
        }
        System.out.println(tests.size() + " boundary tests, " + failed + " do not hold");
        if (failed != 0 || tests.isEmpty()) {
            System.exit(1);
        }
    }

    private static boolean holds(Method method) {
        test = method.getName();
        wrong = 0;
        try {
            method.invoke(null);
        } catch (InvocationTargetException e) {
            wrong++;
            System.out.println(test + ": threw " + e.getCause());
        } catch (IllegalAccessException e) {
            wrong++;
            System.out.println(test + ": cannot be run: " + e);
        }
        if (wrong > 0) {
            System.out.println("does not hold: " + test + " (" + wrong + " answers)");
        }
        return wrong == 0;
    }

    private static void due(String call, int got, int want) {
        if (got != want) {
            wrong++;
            if (wrong <= 5) {
                System.out.println(test + ": " + call + " answered " + got + ", due is " + want);
            }
        }
    }

    private static void due(String call, boolean got, boolean want) {
        due(call, bit(got), bit(want));
    }

    private static int bit(boolean holds) {
        return holds ? 1 : 0;
    }

    private static int demand(int kind, int a, int b) {
        return kind + 4 * a + 32 * b;
    }

    private static int not(int kind, int a, int b) {
        return 256 + demand(kind, a, b);
    }

    private static int number(int f0, int f1, int f2) {
        return f0 + 8 * f1 + 64 * f2;
    }

    private static ReteEngine withRule(int... conditions) {
        ReteEngine x = new ReteEngine();
        rule(x, 0, conditions);
        return x;
    }

    private static void rule(ReteEngine x, int r, int... conditions) {
        for (int what : conditions) {
            x.condition(r, what);
        }
    }

    private static void addAlike(ReteEngine x, int count) {
        for (int n = 0; n < count; n++) {
            x.add(0, 0, 0);
        }
    }

    /** An object with just the facts whose bits are set, all alike. */
    private static ReteEngine withFacts(int bits) {
        ReteEngine x = new ReteEngine();
        keepFacts(x, bits);
        return x;
    }

    private static void keepFacts(ReteEngine x, int bits) {
        addAlike(x, 7);
        for (int f = 0; f < 7; f++) {
            if ((bits >> f & 1) == 0) {
                x.remove(f);
            }
        }
    }

    private static int[] tooLarge(int most) {
        int[] all = new int[FAR_TOO_LARGE.length + 7 - most];
        for (int n = 0; n < 7 - most; n++) {
            all[n] = most + 1 + n;
        }
        System.arraycopy(FAR_TOO_LARGE, 0, all, 7 - most, FAR_TOO_LARGE.length);
        return all;
    }

    // Three states whose answers are worked out by hand. After a refused call
    // an object must still answer all that its state asks, so each check first
    // asks every question and then goes on to change the object.

    private interface Call {
        int on(ReteEngine x);
    }

    private enum State { EMPTY, MIDDLE, FILLED }

    private static ReteEngine in(State state) {
        return switch (state) {
            case EMPTY -> new ReteEngine();
            case MIDDLE -> middle();
            case FILLED -> filled();
        };
    }

    private static void stillIn(State state, ReteEngine x) {
        switch (state) {
            case EMPTY -> stillEmpty(x);
            case MIDDLE -> stillMiddle(x);
            case FILLED -> stillFilled(x);
        }
    }

    private static void refused(String call, int answer, Call made) {
        for (State state : State.values()) {
            refused(call, answer, state, made);
        }
    }

    private static void refused(String call, int answer, State state, Call made) {
        ReteEngine x = in(state);
        due(call + ", " + state, made.on(x), answer);
        due(call + ", " + state + ", again", made.on(x), answer);
        stillIn(state, x);
    }

    /** Rule 0 has no conditions now: it is used to ask for one fact after the other. */
    private static void factIs(ReteEngine x, int f, int kind, int a, int b) {
        due("then a condition for fact " + f, x.condition(0, demand(kind, a, b)), 1);
        due("then fact " + f, x.match(0, 0), number(f, 7, 7));
        due("then the condition away", x.drop(0), 0);
    }

    private static void stillEmpty(ReteEngine x) {
        due("still empty: facts", x.facts(), 0);
        due("still empty: ready", x.ready(), 7);
        for (int f = -1; f < 8; f++) {
            due("still empty: uses of " + f, x.uses(f), NONE);
        }
        for (int r = 0; r < 3; r++) {
            due("still empty: matches", x.matches(r), 1);
            due("still empty: match 0", x.match(r, 0), 511);
            due("still empty: match 1", x.match(r, 1), NONE);
            due("still empty: fitting", x.fitting(r, 0), NONE);
            due("still empty: partial 0", x.partial(r, 0), 1);
            due("still empty: partial 1", x.partial(r, 1), NONE);
            due("still empty: effect", x.effect(r, 0, 0, 0), 0);
            due("still empty: drop", x.drop(r), NONE);
        }
        for (int r = 0; r < 3; r++) {
            due("still empty: then condition", x.condition(r, demand(r, ANY, ANY)), 1);
            due("still empty: then no match", x.matches(r), 0);
        }
        for (int f = 0; f < 7; f++) {
            due("still empty: then add", x.add(f % 3, 0, 0), f);
        }
        due("still empty: then add more", x.add(0, 0, 0), FULL);
        due("still empty: then matches 0", x.matches(0), 3);
        due("still empty: then matches 1", x.matches(1), 2);
        due("still empty: then matches 2", x.matches(2), 2);
    }

    private static final int MIDDLE_CALLS = 9;

    /** Facts 0, 1 and 3, with three conditions, one and none. */
    private static ReteEngine middle() {
        ReteEngine x = withRule(demand(0, X, Y), demand(1, Y, ANY), not(2, X, X));
        rule(x, 1, demand(0, 1, ANY));
        x.add(0, 1, 2);
        x.add(1, 2, 0);
        x.add(2, 0, 0);
        x.add(1, 2, 3);
        x.remove(2);
        return x;
    }

    private static void stillMiddle(ReteEngine x) {
        due("still middle: facts", x.facts(), 1 + 2 + 8);
        due("still middle: ready", x.ready(), 7);
        middleMatches(x);
        middleCounts(x);
        middleEffects(x);
        middleFactsThen(x);
        middleRulesThen(x);
    }

    private static void middleMatches(ReteEngine x) {
        due("still middle: matches 0", x.matches(0), 2);
        due("still middle: match 0, 0", x.match(0, 0), number(0, 1, 7));
        due("still middle: match 0, 1", x.match(0, 1), number(0, 3, 7));
        due("still middle: match 0, 2", x.match(0, 2), NONE);
        due("still middle: matches 1", x.matches(1), 1);
        due("still middle: match 1, 0", x.match(1, 0), number(0, 7, 7));
        due("still middle: match 1, 1", x.match(1, 1), NONE);
        due("still middle: matches 2", x.matches(2), 1);
        due("still middle: match 2, 0", x.match(2, 0), 511);
    }

    private static void middleCounts(ReteEngine x) {
        int[] uses = {3, 1, NONE, 1, NONE, NONE, NONE, NONE};
        for (int f = 0; f < uses.length; f++) {
            due("still middle: uses of " + f, x.uses(f), uses[f]);
        }
        int[][] fitting = {{1, 2, 0, NONE}, {1, NONE}, {NONE}};
        int[][] partial = {{1, 1, 2, 2, NONE}, {1, 1, NONE}, {1, NONE}};
        for (int r = 0; r < 3; r++) {
            for (int i = 0; i < fitting[r].length; i++) {
                due("still middle: fitting " + r + ", " + i, x.fitting(r, i), fitting[r][i]);
            }
            for (int n = 0; n < partial[r].length; n++) {
                due("still middle: partial " + r + ", " + n, x.partial(r, n), partial[r][n]);
            }
        }
    }

    private static void middleEffects(ReteEngine x) {
        due("still middle: effect that stops", x.effect(0, 2, 1, 1), -2);
        due("still middle: effect that stops nothing", x.effect(0, 2, 1, 0), 0);
        due("still middle: effect of a second fact", x.effect(0, 1, 2, 1), 1);
        due("still middle: effect of a first fact", x.effect(0, 0, 3, 2), 2);
        due("still middle: effect on rule 1", x.effect(1, 0, 1, 1), 1);
        due("still middle: effect on rule 2", x.effect(2, 0, 0, 0), 0);
    }

    private static void middleFactsThen(ReteEngine x) {
        due("still middle: then add", x.add(2, 1, 1), 2);
        due("still middle: then no match", x.matches(0), 0);
        due("still middle: then remove", x.remove(2), true);
        due("still middle: then remove again", x.remove(2), false);
        due("still middle: then add another", x.add(0, 1, 2), 2);
        due("still middle: then twice the matches", x.matches(0), 4);
        for (int f = 4; f < 7; f++) {
            due("still middle: then add more", x.add(1, 0, 0), f);
        }
        due("still middle: then no more", x.add(1, 0, 0), FULL);
    }

    private static void middleRulesThen(ReteEngine x) {
        due("still middle: then condition of a full rule", x.condition(0, 0), FULL);
        due("still middle: then drop to 2", x.drop(0), 2);
        due("still middle: then drop to 1", x.drop(0), 1);
        due("still middle: then drop to 0", x.drop(0), 0);
        due("still middle: then drop no more", x.drop(0), NONE);
        factIs(x, 0, 0, 1, 2);
        factIs(x, 1, 1, 2, 0);
        factIs(x, 3, 1, 2, 3);
        due("still middle: then a second condition", x.condition(1, demand(0, ANY, 2)), 2);
        due("still middle: then its matches", x.matches(1), 4);
        due("still middle: then a first condition", x.condition(2, demand(1, 2, ANY)), 1);
        due("still middle: then its matches", x.matches(2), 2);
    }

    /** Seven facts, and three conditions in each rule. */
    private static ReteEngine filled() {
        ReteEngine x = withRule(demand(0, ANY, ANY), demand(1, ANY, ANY), demand(2, ANY, ANY));
        rule(x, 1, demand(0, X, ANY), not(1, X, ANY), demand(2, ANY, ANY));
        rule(x, 2, demand(2, 3, ANY), demand(0, ANY, ANY), demand(0, ANY, ANY));
        for (int f = 0; f < 7; f++) {
            x.add(f % 3, f % 4, f / 2);
        }
        return x;
    }

    private static void stillFilled(ReteEngine x) {
        due("still filled: facts", x.facts(), 127);
        due("still filled: ready", x.ready(), 1 + 2);
        filledMatches(x);
        filledCounts(x);
        due("still filled: effect", x.effect(0, 0, 0, 0), EFFECT_REFUSED);
        due("still filled: add", x.add(0, 0, 0), FULL);
        filledFactsThen(x);
        filledRulesThen(x);
    }

    private static void filledMatches(ReteEngine x) {
        due("still filled: matches 0", x.matches(0), 3 * 2 * 2);
        due("still filled: first match of 0", x.match(0, 0), number(0, 1, 2));
        due("still filled: last match of 0", x.match(0, 11), number(6, 4, 5));
        due("still filled: no more matches of 0", x.match(0, 12), NONE);
        int[] ofRule1 = {number(3, 7, 2), number(6, 7, 2), number(3, 7, 5), number(6, 7, 5), NONE};
        due("still filled: matches 1", x.matches(1), 4);
        for (int k = 0; k < ofRule1.length; k++) {
            due("still filled: match 1, " + k, x.match(1, k), ofRule1[k]);
        }
        due("still filled: matches 2", x.matches(2), 0);
        due("still filled: match 2, 0", x.match(2, 0), NONE);
    }

    private static void filledCounts(ReteEngine x) {
        int[] uses = {4, 6, 6 + 2, 4 + 2, 6, 6 + 2, 4 + 2, NONE};
        for (int f = 0; f < uses.length; f++) {
            due("still filled: uses of " + f, x.uses(f), uses[f]);
        }
        int[][] fitting = {{3, 2, 2, NONE}, {3, 2, 2, NONE}, {0, 3, 3, NONE}};
        int[][] partial = {{1, 3, 6, 12, NONE}, {1, 3, 2, 4, NONE}, {1, 0, 0, 0, NONE}};
        for (int r = 0; r < 3; r++) {
            for (int i = 0; i < fitting[r].length; i++) {
                due("still filled: fitting " + r + ", " + i, x.fitting(r, i), fitting[r][i]);
            }
            for (int n = 0; n < partial[r].length; n++) {
                due("still filled: partial " + r + ", " + n, x.partial(r, n), partial[r][n]);
            }
        }
    }

    private static void filledFactsThen(ReteEngine x) {
        due("still filled: then a condition away", x.drop(2), 2);
        due("still filled: then one for fact 3", x.condition(2, demand(0, 3, 1)), 3);
        due("still filled: then fact 3 fits it", x.fitting(2, 2), 1);
        due("still filled: then that away", x.drop(2), 2);
        due("still filled: then one as before", x.condition(2, demand(0, ANY, ANY)), 3);
        due("still filled: then remove", x.remove(3), true);
        due("still filled: then facts", x.facts(), 127 - 8);
        due("still filled: then effect on 2", x.effect(2, 2, 3, 0), 4);
        due("still filled: then effect on 1", x.effect(1, 1, 2, 0), -2);
        due("still filled: then add", x.add(2, 3, 0), 3);
        due("still filled: then matches 2", x.matches(2), 4);
    }

    private static void filledRulesThen(ReteEngine x) {
        for (int r = 0; r < 3; r++) {
            due("still filled: then condition", x.condition(r, 0), FULL);
            due("still filled: then drop to 2", x.drop(r), 2);
            due("still filled: then drop to 1", x.drop(r), 1);
            due("still filled: then drop to 0", x.drop(r), 0);
            due("still filled: then drop no more", x.drop(r), NONE);
            due("still filled: then one match", x.match(r, 0), 511);
        }
        for (int f = 0; f < 7; f++) {
            if (f != 3) {
                factIs(x, f, f % 3, f % 4, f / 2);
            }
        }
    }

    /** A call refused for its seven facts, where the rules have none, one and two conditions. */
    private static void refusedWithRoomInTheRules(String call, int answer, Call made) {
        int[] matches = {1, 7, 49};
        ReteEngine x = withFacts(127);
        rule(x, 1, demand(0, ANY, ANY));
        rule(x, 2, demand(0, ANY, ANY), demand(0, ANY, ANY));
        due(call, made.on(x), answer);
        due(call + ", then facts", x.facts(), 127);
        for (int r = 0; r < 3; r++) {
            due(call + ", then all of rule " + r, x.partial(r, r), matches[r]);
            due(call + ", then no more of rule " + r, x.partial(r, r + 1), NONE);
            due(call + ", then one more of rule " + r, x.condition(r, demand(0, ANY, ANY)), r + 1);
        }
    }

    // What it is, and the public face.

    static void whatItIs_factsAreRightUpToThe512thCall() {
        ReteEngine x = new ReteEngine();
        for (int call = 1; call < 512; call += 2) {
            due("add, call " + call, x.add(0, 1, 2), 0);
            due("remove, call " + (call + 1), x.remove(0), true);
        }
        ReteEngine growing = new ReteEngine();
        for (int call = 1; call <= 511; call++) {
            due("add, call " + call, growing.add(0, 1, 2), call <= 7 ? call - 1 : FULL);
        }
        due("facts, call 512", growing.facts(), 127);
    }

    static void whatItIs_conditionsAreRightUpToThe512thCall() {
        ReteEngine x = new ReteEngine();
        for (int call = 1; call < 512; call += 2) {
            due("condition, call " + call, x.condition(2, 0), 1);
            due("drop, call " + (call + 1), x.drop(2), 0);
        }
        ReteEngine growing = new ReteEngine();
        for (int call = 1; call <= 511; call++) {
            due("condition, call " + call, growing.condition(0, 0), call <= 3 ? call : FULL);
        }
        due("matches, call 512", growing.matches(0), 0);
    }

    static void whatItIs_effectsAreRightUpToThe512thCall() {
        ReteEngine x = withRule(demand(0, ANY, ANY));
        for (int call = 2; call <= 511; call++) {
            due("effect, call " + call, x.effect(0, 0, 0, 0), 1);
        }
        due("add, call 512", x.add(0, 0, 0), 0);
    }

    static void whatItIs_anyCallIsRightAsThe512th() {
        asThe512th("condition", 2, x -> x.condition(1, 0));
        asThe512th("drop", 2, x -> x.drop(0));
        asThe512th("add", 2, x -> x.add(0, 0, 0));
        asThe512th("remove", 1, x -> bit(x.remove(3)));
        asThe512th("facts", 1 + 2 + 8, x -> x.facts());
        asThe512th("matches", 2, x -> x.matches(0));
        asThe512th("match", number(0, 3, 7), x -> x.match(0, 1));
        asThe512th("ready", 7, x -> x.ready());
        asThe512th("uses", 3, x -> x.uses(0));
        asThe512th("fitting", 2, x -> x.fitting(0, 1));
        asThe512th("partial", 1, x -> x.partial(0, 1));
        asThe512th("effect", -2, x -> x.effect(0, 2, 1, 1));
    }

    private static void asThe512th(String call, int answer, Call made) {
        ReteEngine x = middle();
        for (int n = MIDDLE_CALLS + 1; n < 512; n++) {
            x.facts();
        }
        due(call, made.on(x), answer);
    }

    static void face_noneIsMinus1() {
        due("NONE", ReteEngine.NONE, -1);
    }

    static void face_fullIsMinus2() {
        due("FULL", ReteEngine.FULL, -2);
    }

    // Terms.

    static void terms_factsHaveNumbers0To6() {
        ReteEngine x = new ReteEngine();
        for (int f = 0; f < 7; f++) {
            due("uses of " + f + " before", x.uses(f), NONE);
            due("add", x.add(0, 0, 0), f);
            due("uses of " + f, x.uses(f), 0);
        }
        due("uses of 7", x.uses(7), NONE);
    }

    static void terms_atMostSevenFactsAtATime() {
        ReteEngine x = withFacts(127);
        due("an eighth fact", x.add(1, 1, 1), FULL);
        for (int f = 0; f < 7; f++) {
            x.remove(f);
            due("one for one taken away", x.add(1, 1, 1), f);
            due("but no eighth", x.add(1, 1, 1), FULL);
        }
    }

    static void terms_aFactHasAKindFrom0To2() {
        for (int kind = 0; kind < 3; kind++) {
            ReteEngine x = new ReteEngine();
            due("add of kind " + kind, x.add(kind, 0, 0), 0);
            for (int r = 0; r < 3; r++) {
                x.condition(r, demand(r, 0, 0));
                due("a condition of kind " + r, x.matches(r), bit(kind == r));
            }
        }
    }

    static void terms_aFactHasValuesFrom0To3() {
        for (int form = 0; form < 16; form++) {
            int a = form % 4;
            int b = form / 4;
            ReteEngine x = withRule(demand(1, X, Y), demand(1, X, b), demand(1, a, Y));
            due("add of " + a + ", " + b, x.add(1, a, b), 0);
            due("its match", x.match(0, 0), 0);
        }
    }

    static void terms_twoFactsMayBeAlike() {
        ReteEngine x = withRule(demand(2, 3, 1));
        due("a fact", x.add(2, 3, 1), 0);
        due("one like it", x.add(2, 3, 1), 1);
        due("both are there", x.facts(), 3);
        due("both match", x.matches(0), 2);
        due("one is taken away", x.remove(0), true);
        due("the other stays", x.facts(), 2);
        due("the other matches", x.match(0, 0), number(1, 7, 7));
    }

    static void terms_rules0To2AreEachAListOfTheirOwn() {
        for (int r = 0; r < 3; r++) {
            ReteEngine x = new ReteEngine();
            due("condition of rule " + r, x.condition(r, 0), 1);
            for (int other = 0; other < 3; other++) {
                due("matches of " + other, x.matches(other), bit(other != r));
                due("fitting of " + other, x.fitting(other, 0), other == r ? 0 : NONE);
            }
        }
    }

    static void terms_aRuleHasAtMostThreeConditions() {
        for (int r = 0; r < 3; r++) {
            ReteEngine x = new ReteEngine();
            rule(x, r, 0, 0, 0, 0);
            due("a third condition of " + r, x.partial(r, 3), 0);
            due("no fourth condition of " + r, x.partial(r, 4), NONE);
            due("drop of the third", x.drop(r), 2);
        }
    }

    static void terms_aDemandFrom0To3IsForThisNumber() {
        for (int value = 0; value < 4; value++) {
            for (int demand = 0; demand < 4; demand++) {
                ReteEngine x = withRule(demand(0, demand, ANY));
                rule(x, 1, demand(0, ANY, demand));
                rule(x, 2, not(0, demand, demand));
                x.add(0, value, value);
                due("demand " + demand + " on a, " + value, x.matches(0), bit(demand == value));
                due("demand " + demand + " on b, " + value, x.matches(1), bit(demand == value));
                due("demand " + demand + " negated, " + value, x.matches(2), bit(demand != value));
            }
        }
    }

    static void terms_demands4To6AreThreeVariables() {
        for (int one = X; one <= Z; one++) {
            for (int other = X; other <= Z; other++) {
                ReteEngine x = withRule(demand(0, one, other));
                x.add(0, 3, 0);
                due("variables " + one + " and " + other, x.matches(0), bit(one != other));
            }
        }
        ReteEngine all = withRule(demand(0, X, Y), demand(1, Y, Z), demand(2, Z, X));
        all.add(0, 0, 1);
        all.add(1, 1, 3);
        due("three variables, no last fact", all.matches(0), 0);
        all.add(2, 3, 0);
        due("three variables with three values", all.match(0, 0), number(0, 1, 2));
    }

    static void terms_demand7IsForAnything() {
        for (int form = 0; form < 16; form++) {
            ReteEngine x = withRule(demand(0, ANY, ANY), demand(1, ANY, ANY));
            x.add(0, form % 4, form / 4);
            x.add(1, form / 4, 3 - form % 4);
            due("anything for " + form, x.match(0, 0), number(0, 1, 7));
        }
    }

    static void terms_aVariableNotBoundYetIsBoundToTheValue() {
        for (int variable = X; variable <= Z; variable++) {
            for (int value = 0; value < 4; value++) {
                ReteEngine x = withRule(demand(0, variable, ANY));
                rule(x, 1, demand(0, ANY, variable), demand(1, variable, ANY));
                x.add(0, value, value);
                x.add(1, value, 0);
                due("not bound yet fits " + value, x.matches(0), 1);
                due("and is bound to " + value, x.match(1, 0), number(0, 1, 7));
            }
        }
    }

    static void terms_aBoundVariableFitsOnlyItsValue() {
        for (int variable = X; variable <= Z; variable++) {
            for (int form = 0; form < 16; form++) {
                int fits = bit(form % 4 == form / 4);
                ReteEngine x = withRule(demand(0, variable, ANY), demand(1, variable, ANY));
                rule(x, 1, demand(0, variable, ANY), demand(0, ANY, ANY), demand(1, ANY, variable));
                rule(x, 2, demand(0, ANY, variable), demand(1, variable, ANY), demand(1, ANY, variable));
                x.add(0, form % 4, form % 4);
                x.add(1, form / 4, form / 4);
                due("bound on a, then on a, " + form, x.matches(0), fits);
                due("bound on a long before, then on b, " + form, x.matches(1), fits);
                due("bound on b, then on both, " + form, x.matches(2), fits);
            }
        }
    }

    static void terms_theDemandOnABindsBeforeThatOnB() {
        for (int form = 0; form < 16; form++) {
            ReteEngine x = withRule(demand(0, Z, Z));
            x.add(0, form % 4, form / 4);
            due("one variable on both, " + form, x.matches(0), bit(form % 4 == form / 4));
        }
    }

    static void terms_differentConditionsMayGetTheSameFact() {
        ReteEngine x = withRule(demand(0, X, ANY), demand(0, 1, Y), demand(0, X, Y));
        x.add(0, 1, 2);
        due("one fact for three conditions", x.match(0, 0), number(0, 0, 0));
        due("its only match", x.matches(0), 1);
    }

    static void terms_aNegatedConditionGetsNoFact() {
        ReteEngine x = withRule(not(1, 0, 0), demand(0, ANY, ANY), not(2, 0, 0));
        x.add(0, 0, 0);
        x.add(1, 1, 1);
        due("7 in its places", x.match(0, 0), number(7, 0, 7));
        due("one match alone", x.matches(0), 1);
        due("no place for another fact", x.uses(1), 0);
    }

    static void terms_aNegatedConditionGoesOnWithoutFacts() {
        ReteEngine x = withRule(not(0, ANY, ANY), not(1, X, X), not(2, 0, Z));
        due("no facts", x.match(0, 0), 511);
        x.add(0, 0, 0);
        due("a fact that fits", x.matches(0), 0);
        x.remove(0);
        due("a fact that is there no more", x.match(0, 0), 511);
    }

    static void terms_anyFactThatIsThereStopsANegatedCondition() {
        for (int f = 0; f < 7; f++) {
            ReteEngine x = withRule(not(0, ANY, ANY));
            keepFacts(x, 1 << f);
            due("only fact " + f, x.matches(0), 0);
            x.remove(f);
            due("fact " + f + " taken away", x.matches(0), 1);
        }
    }

    static void terms_aFactOfTheMatchItselfStopsANegatedCondition() {
        ReteEngine x = withRule(demand(0, X, Y), not(0, X, Y));
        x.add(0, 1, 2);
        due("its own fact fits", x.matches(0), 0);
        due("before the negated condition", x.partial(0, 1), 1);
    }

    static void terms_aNegatedConditionKeepsToTheVariablesBoundSoFar() {
        for (int form = 0; form < 16; form++) {
            ReteEngine x = withRule(demand(0, X, ANY), not(1, X, ANY));
            x.add(0, form % 4, 0);
            x.add(1, form / 4, 0);
            due("bound before, " + form, x.matches(0), bit(form % 4 != form / 4));
        }
    }

    static void terms_aNegatedConditionDoesNotSeeVariablesBoundLater() {
        ReteEngine x = withRule(not(1, X, ANY), demand(0, X, ANY));
        x.add(0, 1, 0);
        due("no fact fits it", x.matches(0), 1);
        x.add(1, 2, 0);
        due("a fact of any value fits it", x.matches(0), 0);
    }

    static void terms_anUnboundVariableTwiceNegatedMeansEqualValues() {
        for (int form = 0; form < 16; form++) {
            ReteEngine x = withRule(not(0, Y, Y));
            x.add(0, form % 4, form / 4);
            due("values " + form, x.matches(0), bit(form % 4 != form / 4));
        }
    }

    static void terms_aBoundVariableTwiceNegatedMeansItsValueTwice() {
        for (int form = 0; form < 16; form++) {
            ReteEngine x = withRule(demand(1, Y, ANY), not(0, Y, Y));
            x.add(1, 2, 0);
            x.add(0, form % 4, form / 4);
            due("values " + form, x.matches(0), bit(form != 2 + 4 * 2));
        }
    }

    static void terms_aNegatedConditionBindsForEachFactAnew() {
        ReteEngine x = withRule(not(0, X, X));
        x.add(0, 0, 1);
        x.add(0, 1, 0);
        x.add(0, 1, 2);
        due("no fact has equal values", x.matches(0), 1);
        x.add(0, 3, 3);
        due("the last fact has", x.matches(0), 0);
        x.remove(3);
        due("it is there no more", x.matches(0), 1);
    }

    static void terms_variablesStayUnboundAfterANegatedCondition() {
        ReteEngine x = withRule(not(1, X, X), demand(0, X, ANY));
        x.add(1, 0, 1);
        x.add(1, 2, 3);
        for (int value = 0; value < 4; value++) {
            x.add(0, value, 0);
        }
        due("every value fits after it", x.matches(0), 4);
        ReteEngine two = withRule(not(0, X, 1), not(0, X, 2), demand(0, 3, X));
        two.add(0, 3, 3);
        due("after two of them", two.match(0, 0), number(7, 7, 0));
        two.add(0, 0, 2);
        due("the second is not bound by the first", two.matches(0), 0);
    }

    static void terms_matchesDifferWhenSomeConditionHasDifferentFacts() {
        for (int place = 0; place < 3; place++) {
            ReteEngine x = new ReteEngine();
            for (int i = 0; i < 3; i++) {
                x.condition(0, demand(i == place ? 1 : 0, ANY, ANY));
            }
            x.add(0, 0, 0);
            x.add(1, 2, 2);
            due("one fact for each condition", x.matches(0), 1);
            x.add(1, 2, 2);
            due("two facts that are alike in place " + place, x.matches(0), 2);
        }
    }

    static void terms_aRuleWithoutConditionsHasExactlyOneMatch() {
        for (int count = 0; count <= 7; count++) {
            ReteEngine x = new ReteEngine();
            addAlike(x, count);
            for (int r = 0; r < 3; r++) {
                due("matches with facts " + count, x.matches(r), 1);
                due("match 0", x.match(r, 0), 511);
                due("match 1", x.match(r, 1), NONE);
            }
        }
        ReteEngine dropped = withRule(demand(0, 0, 0));
        due("matches with a condition", dropped.matches(0), 0);
        dropped.drop(0);
        due("matches without it", dropped.matches(0), 1);
    }

    static void terms_7StandsForAConditionThatTheRuleDoesNotHave() {
        ReteEngine x = withRule(demand(0, ANY, ANY));
        rule(x, 1, demand(0, ANY, ANY), demand(0, ANY, ANY));
        rule(x, 2, demand(0, ANY, ANY), demand(0, ANY, ANY), demand(0, ANY, ANY));
        x.add(0, 0, 0);
        due("one condition", x.match(0, 0), 0 + 8 * 7 + 64 * 7);
        due("two conditions", x.match(1, 0), 0 + 8 * 0 + 64 * 7);
        due("three conditions", x.match(2, 0), 0);
    }

    static void terms_theLeastAndTheGreatestMatchNumber() {
        ReteEngine x = withRule(demand(0, ANY, ANY), demand(0, ANY, ANY), demand(0, ANY, ANY));
        addAlike(x, 7);
        due("fact 0 in all places", x.match(0, 0), 0);
        due("fact 6 in all places", x.match(0, 342), 6 + 8 * 6 + 64 * 6);
    }

    // Promise 1: a new object.

    static void promise01_aNewObjectHasNoFacts() {
        ReteEngine x = new ReteEngine();
        due("facts", x.facts(), 0);
        for (int f = 0; f < 7; f++) {
            due("uses of " + f, x.uses(f), NONE);
            due("remove of " + f, x.remove(f), false);
        }
        due("the first fact", x.add(0, 0, 0), 0);
    }

    static void promise01_aNewObjectHasNoConditions() {
        ReteEngine x = new ReteEngine();
        for (int r = 0; r < 3; r++) {
            due("drop of " + r, x.drop(r), NONE);
            due("fitting of " + r, x.fitting(r, 0), NONE);
            due("partial of " + r, x.partial(r, 1), NONE);
            due("the first condition", x.condition(r, 0), 1);
        }
    }

    static void promise01_aNewObjectHasNothingOfAnother() {
        ReteEngine before = middle();
        ReteEngine filled = filled();
        ReteEngine x = new ReteEngine();
        stillEmpty(x);
        stillMiddle(before);
        stillFilled(filled);
    }

    // Promise 2: condition.

    static void promise02_addsAtTheEnd() {
        ReteEngine x = withRule(demand(0, 1, ANY), demand(0, 2, ANY), demand(0, 3, ANY));
        x.add(0, 3, 0);
        x.add(0, 1, 0);
        x.add(0, 2, 0);
        due("first, second, third", x.match(0, 0), number(1, 2, 0));
    }

    static void promise02_answersTheNumberOfConditionsNow() {
        for (int r = 0; r < 3; r++) {
            ReteEngine x = new ReteEngine();
            due("first", x.condition(r, 0), 1);
            due("second", x.condition(r, 0), 2);
            due("third", x.condition(r, 0), 3);
        }
    }

    static void promise02_takesTheLeastForm() {
        ReteEngine x = new ReteEngine();
        due("form 0", x.condition(0, 0), 1);
        x.add(0, 0, 0);
        due("fits kind 0 with 0 and 0", x.match(0, 0), number(0, 7, 7));
    }

    static void promise02_takesTheGreatestForm() {
        ReteEngine x = new ReteEngine();
        due("form 510", x.condition(0, 510), 1);
        x.add(1, 3, 3);
        due("no fact of kind 2", x.match(0, 0), 511);
        x.add(2, 3, 0);
        due("any fact of kind 2", x.matches(0), 0);
    }

    static void promise02_readsEveryForm() {
        for (int what = 0; what < 512; what++) {
            if (what % 4 == 3) {
                continue;
            }
            ReteEngine x = new ReteEngine();
            due("form " + what, x.condition(0, what), 1);
            for (int fact = 0; fact < 48; fact++) {
                int kind = fact / 16;
                int a = fact / 4 % 4;
                int b = fact % 4;
                boolean fits = fitsAlone(what, kind, a, b);
                int change = what >= 256 ? -1 : 1;
                due("form " + what + " for fact " + fact, x.effect(0, kind, a, b), fits ? change : 0);
            }
        }
    }

    private static boolean fitsAlone(int what, int kind, int a, int b) {
        int onA = what / 4 % 8;
        int onB = what / 32 % 8;
        boolean sameVariable = onA == onB && onA >= X && onA <= Z;
        return what % 4 == kind
            && (onA > 3 || onA == a)
            && (onB > 3 || onB == b)
            && (!sameVariable || a == b);
    }

    static void promise02_noneWhenTheRuleIsTooSmall() {
        for (int r : TOO_SMALL) {
            refused("condition of rule " + r, NONE, x -> x.condition(r, 0));
        }
    }

    static void promise02_noneWhenTheRuleIsTooLarge() {
        for (int r : tooLarge(2)) {
            refused("condition of rule " + r, NONE, x -> x.condition(r, 0));
        }
    }

    static void promise02_noneWhenTheFormIsTooSmall() {
        for (int what : TOO_SMALL) {
            for (int r = 0; r < 3; r++) {
                int rule = r;
                refused("condition of form " + what, NONE, x -> x.condition(rule, what));
            }
        }
    }

    static void promise02_noneWhenTheFormIsTooLarge() {
        int[] forms = {
            512, 513, 514, 515, 768, 1022, 1023, 1024, 4096, 65536, 1 << 30,
            Integer.MAX_VALUE - 1, Integer.MAX_VALUE,
        };
        for (int what : forms) {
            for (int r = 0; r < 3; r++) {
                int rule = r;
                refused("condition of form " + what, NONE, x -> x.condition(rule, what));
            }
        }
    }

    static void promise02_noneWhenTheFormHasKind3() {
        for (int what = 3; what < 512; what += 4) {
            int form = what;
            refused("condition of form " + form, NONE, x -> x.condition(1, form));
        }
    }

    static void promise02_fullWhenTheRuleHasThree() {
        for (int r = 0; r < 3; r++) {
            int rule = r;
            for (int what : new int[] {0, 1, 2, 4, 240, 256, 510}) {
                refused("a fourth condition", FULL, State.FILLED, x -> x.condition(rule, what));
            }
        }
        refused("a fourth condition before a rule with one", FULL, State.MIDDLE, x -> x.condition(0, 510));
    }

    static void promise02_fullRuleLeavesTheOthersRoom() {
        for (int r = 0; r < 3; r++) {
            ReteEngine x = new ReteEngine();
            rule(x, r, 0, 0, 0, 0);
            for (int other = 0; other < 3; other++) {
                due("condition of " + other, x.condition(other, 0), other == r ? FULL : 1);
            }
        }
    }

    // Promise 3: drop.

    static void promise03_takesTheLastAway() {
        ReteEngine x = withRule(demand(0, 1, ANY), demand(0, 2, ANY), demand(0, 3, ANY));
        x.add(0, 1, 0);
        due("none for the second", x.matches(0), 0);
        x.drop(0);
        due("still none for the second", x.matches(0), 0);
        x.drop(0);
        due("the first is left", x.match(0, 0), number(0, 7, 7));
    }

    static void promise03_answersHowManyAreLeftDownTo0() {
        for (int r = 0; r < 3; r++) {
            ReteEngine x = filled();
            due("drop from three", x.drop(r), 2);
            due("drop from two", x.drop(r), 1);
            due("drop from one", x.drop(r), 0);
        }
    }

    static void promise03_noneWhenTheRuleIsTooSmall() {
        for (int r : TOO_SMALL) {
            refused("drop of rule " + r, NONE, x -> x.drop(r));
        }
    }

    static void promise03_noneWhenTheRuleIsTooLarge() {
        for (int r : tooLarge(2)) {
            refused("drop of rule " + r, NONE, x -> x.drop(r));
        }
    }

    static void promise03_noneWhenTheRuleHasNone() {
        for (int r = 0; r < 3; r++) {
            int rule = r;
            refused("drop of rule " + r, NONE, State.EMPTY, x -> x.drop(rule));
        }
        refused("drop of rule 2", NONE, State.MIDDLE, x -> x.drop(2));
    }

    static void promise03_noneWhenAllWereDropped() {
        for (int r = 0; r < 3; r++) {
            ReteEngine x = filled();
            x.drop(r);
            x.drop(r);
            x.drop(r);
            due("drop of none", x.drop(r), NONE);
            due("drop of none again", x.drop(r), NONE);
            due("one match", x.match(r, 0), 511);
            due("no part of it", x.partial(r, 1), NONE);
            due("the next condition is the first", x.condition(r, 0), 1);
            due("another rule keeps its own", x.drop((r + 1) % 3), 2);
            due("facts stay", x.facts(), 127);
        }
    }

    static void promise03_afterADropThereIsRoomForOne() {
        ReteEngine x = filled();
        due("full", x.condition(0, 0), FULL);
        due("drop", x.drop(0), 2);
        due("room for one", x.condition(0, not(2, 3, 3)), 3);
        due("full again", x.condition(0, 0), FULL);
        due("the new one took the old one's place", x.match(0, 0), number(0, 1, 7));
    }

    // Promise 4: add.

    static void promise04_answersTheLeastNumberThatNoneHas() {
        for (int bits = 0; bits < 127; bits++) {
            int least = 0;
            while ((bits >> least & 1) == 1) {
                least++;
            }
            ReteEngine x = withFacts(bits);
            due("add to " + bits, x.add(0, 0, 0), least);
            due("facts then", x.facts(), bits | 1 << least);
        }
    }

    static void promise04_takesTheLeastAndTheGreatestKindAndValues() {
        ReteEngine x = withRule(demand(0, 0, 0));
        rule(x, 1, demand(2, 3, 3));
        due("least", x.add(0, 0, 0), 0);
        due("greatest kind", x.add(2, 0, 0), 1);
        due("greatest a", x.add(0, 3, 0), 2);
        due("greatest b", x.add(0, 0, 3), 3);
        due("greatest of all", x.add(2, 3, 3), 4);
        due("match of the least", x.match(0, 0), number(0, 7, 7));
        due("the only one", x.matches(0), 1);
        due("match of the greatest", x.match(1, 0), number(4, 7, 7));
        due("the only one", x.matches(1), 1);
    }

    static void promise04_noneWhenTheKindIsTooSmall() {
        for (int kind : TOO_SMALL) {
            refused("add of kind " + kind, NONE, x -> x.add(kind, 1, 2));
        }
    }

    static void promise04_noneWhenTheKindIsTooLarge() {
        for (int kind : tooLarge(2)) {
            refused("add of kind " + kind, NONE, x -> x.add(kind, 1, 2));
        }
    }

    static void promise04_noneWhenAIsTooSmall() {
        for (int a : TOO_SMALL) {
            refused("add of a " + a, NONE, x -> x.add(0, a, 2));
        }
    }

    static void promise04_noneWhenAIsTooLarge() {
        for (int a : tooLarge(3)) {
            refused("add of a " + a, NONE, x -> x.add(0, a, 2));
        }
    }

    static void promise04_noneWhenBIsTooSmall() {
        for (int b : TOO_SMALL) {
            refused("add of b " + b, NONE, x -> x.add(0, 1, b));
        }
    }

    static void promise04_noneWhenBIsTooLarge() {
        for (int b : tooLarge(3)) {
            refused("add of b " + b, NONE, x -> x.add(0, 1, b));
        }
    }

    static void promise04_fullWhenSevenAreThere() {
        for (int fact = 0; fact < 48; fact++) {
            int form = fact;
            refused("an eighth fact", FULL, State.FILLED, x -> x.add(form / 16, form / 4 % 4, form % 4));
        }
        refusedWithRoomInTheRules("an eighth fact", FULL, x -> x.add(0, 0, 0));
    }

    static void promise04_notFullWhenSixAreThere() {
        for (int f = 0; f < 7; f++) {
            ReteEngine x = withFacts(127);
            due("seven", x.add(0, 0, 0), FULL);
            x.remove(f);
            due("six", x.add(0, 0, 0), f);
            due("seven again", x.add(0, 0, 0), FULL);
        }
    }

    static void promise04_aNewFactHasNothingOfTheOneBefore() {
        ReteEngine x = withRule(demand(1, 2, 3));
        x.add(1, 2, 3);
        x.remove(0);
        due("the number is free again", x.add(0, 1, 0), 0);
        due("but the fact is another", x.matches(0), 0);
        due("and fits no more", x.fitting(0, 0), 0);
    }

    // Promise 5: remove.

    static void promise05_takesTheFirstAndTheLastNumber() {
        for (int f : new int[] {0, 6}) {
            ReteEngine x = withRule(demand(0, ANY, ANY));
            addAlike(x, 7);
            due("remove of " + f, x.remove(f), true);
            due("facts", x.facts(), 127 - (1 << f));
            due("matches", x.matches(0), 6);
            due("uses", x.uses(f), NONE);
        }
    }

    static void promise05_takesTheOnlyFact() {
        ReteEngine x = withRule(demand(0, ANY, ANY));
        x.add(0, 0, 0);
        due("remove", x.remove(0), true);
        due("facts", x.facts(), 0);
        due("ready", x.ready(), 6);
    }

    static void promise05_falseWhenTheNumberIsTooSmall() {
        for (int f : TOO_SMALL) {
            refused("remove of " + f, 0, x -> bit(x.remove(f)));
        }
    }

    static void promise05_falseWhenTheNumberIsTooLarge() {
        for (int f : tooLarge(6)) {
            refused("remove of " + f, 0, x -> bit(x.remove(f)));
        }
    }

    static void promise05_falseWhenThereIsNoSuchFact() {
        for (int f = 0; f < 7; f++) {
            int fact = f;
            refused("remove of " + f, 0, State.EMPTY, x -> bit(x.remove(fact)));
        }
        for (int f : new int[] {2, 4, 5, 6}) {
            refused("remove of " + f, 0, State.MIDDLE, x -> bit(x.remove(f)));
        }
    }

    static void promise05_falseWhenItWasTakenAwayBefore() {
        ReteEngine x = filled();
        for (int f = 0; f < 7; f++) {
            int left = 127 - (2 << f) + 1;
            due("remove of " + f, x.remove(f), true);
            due("remove of " + f + " again", x.remove(f), false);
            due("facts", x.facts(), left);
        }
        due("the next fact", x.add(0, 0, 0), 0);
    }

    // Promise 6: facts.

    static void promise06_0WhenThereAreNone() {
        ReteEngine x = new ReteEngine();
        due("facts of a new object", x.facts(), 0);
        x.add(2, 3, 3);
        x.remove(0);
        due("facts after the last was taken away", x.facts(), 0);
    }

    static void promise06_127WhenThereAreSeven() {
        due("seven facts", withFacts(127).facts(), 127);
        ReteEngine x = withFacts(127);
        x.add(0, 0, 0);
        due("seven facts and one refused", x.facts(), 127);
    }

    static void promise06_bitFForFactF() {
        for (int bits = 0; bits < 128; bits++) {
            due("facts", withFacts(bits).facts(), bits);
        }
    }

    // Promise 7: matches.

    static void promise07_0WhenThereIsNoMatch() {
        ReteEngine x = withRule(demand(0, 0, 0));
        due("no facts", x.matches(0), 0);
        x.add(1, 0, 0);
        due("no fact that fits", x.matches(0), 0);
    }

    static void promise07_theMostMatches() {
        for (int r = 0; r < 3; r++) {
            ReteEngine x = new ReteEngine();
            rule(x, r, demand(0, ANY, ANY), demand(0, X, Y), demand(0, Y, X));
            addAlike(x, 7);
            due("seven facts for three conditions", x.matches(r), 343);
        }
    }

    static void promise07_noneWhenTheRuleIsTooSmall() {
        for (int r : TOO_SMALL) {
            refused("matches of rule " + r, NONE, x -> x.matches(r));
        }
    }

    static void promise07_noneWhenTheRuleIsTooLarge() {
        for (int r : tooLarge(2)) {
            refused("matches of rule " + r, NONE, x -> x.matches(r));
        }
    }

    // Promise 8: match.

    static void promise08_theFirstHasNoLesserOne() {
        ReteEngine x = withRule(demand(0, ANY, ANY), demand(1, ANY, ANY));
        x.add(1, 0, 0);
        x.add(0, 0, 0);
        x.add(0, 0, 0);
        due("match 0", x.match(0, 0), number(1, 0, 7));
    }

    static void promise08_theLastHasAllOthersLesser() {
        ReteEngine x = withRule(demand(0, ANY, ANY), demand(0, ANY, ANY), demand(0, ANY, ANY));
        addAlike(x, 7);
        for (int k = 0; k < 343; k++) {
            due("match " + k, x.match(0, k), number(k % 7, k / 7 % 7, k / 49));
        }
        due("no match 343", x.match(0, 343), NONE);
    }

    static void promise08_orderGoesByTheNumberNotByTheFirstFact() {
        ReteEngine x = withRule(demand(0, ANY, ANY), demand(0, ANY, ANY));
        addAlike(x, 2);
        due("match 1", x.match(0, 1), number(1, 0, 7));
        due("match 2", x.match(0, 2), number(0, 1, 7));
    }

    static void promise08_noneWhenKIsTheNumberOfMatches() {
        refused("match 1 of an empty rule", NONE, State.EMPTY, x -> x.match(0, 1));
        refused("match 2 of two", NONE, State.MIDDLE, x -> x.match(0, 2));
        refused("match 1 of one", NONE, State.MIDDLE, x -> x.match(1, 1));
        refused("match 12 of twelve", NONE, State.FILLED, x -> x.match(0, 12));
        refused("match 4 of four", NONE, State.FILLED, x -> x.match(1, 4));
    }

    static void promise08_noneWhenThereIsNoMatchAtAll() {
        refused("match 0 of none", NONE, State.FILLED, x -> x.match(2, 0));
        refused("match 1 of none", NONE, State.FILLED, x -> x.match(2, 1));
    }

    static void promise08_noneWhenKIsTooSmall() {
        for (int k : TOO_SMALL) {
            for (int r = 0; r < 3; r++) {
                int rule = r;
                refused("match " + k + " of rule " + r, NONE, x -> x.match(rule, k));
            }
        }
    }

    static void promise08_noneWhenKIsTooLarge() {
        for (int k : new int[] {343, 511, 512, 513, 65536, 1 << 30, Integer.MAX_VALUE}) {
            for (int r = 0; r < 3; r++) {
                int rule = r;
                refused("match " + k + " of rule " + r, NONE, x -> x.match(rule, k));
            }
        }
    }

    static void promise08_noneWhenTheRuleIsTooSmall() {
        for (int r : TOO_SMALL) {
            refused("match of rule " + r, NONE, x -> x.match(r, 0));
        }
    }

    static void promise08_noneWhenTheRuleIsTooLarge() {
        for (int r : tooLarge(2)) {
            refused("match of rule " + r, NONE, x -> x.match(r, 0));
        }
    }

    // Promise 9: ready.

    static void promise09_0WhenNoRuleHasAMatch() {
        ReteEngine x = new ReteEngine();
        for (int r = 0; r < 3; r++) {
            due("ready before", x.ready(), 7 - ((1 << r) - 1));
            x.condition(r, demand(r, 0, 0));
        }
        due("ready", x.ready(), 0);
    }

    static void promise09_bitRForRuleR() {
        for (int rules = 0; rules < 8; rules++) {
            ReteEngine x = new ReteEngine();
            for (int r = 0; r < 3; r++) {
                x.condition(r, demand(r, ANY, ANY));
                if ((rules >> r & 1) == 1) {
                    x.add(r, 0, 0);
                    x.add(r, 0, 0);
                }
            }
            due("ready", x.ready(), rules);
        }
    }

    static void promise09_aRuleWithoutConditionsIsReady() {
        for (int r = 0; r < 3; r++) {
            ReteEngine x = filled();
            x.drop(r);
            x.drop(r);
            x.drop(r);
            due("ready", x.ready(), 3 | 1 << r);
        }
    }

    static void promise09_aRuleOfNegatedConditionsIsReadyWithoutFacts() {
        ReteEngine x = withRule(not(0, ANY, ANY), not(1, X, X), not(2, 0, 0));
        rule(x, 1, demand(0, ANY, ANY));
        due("without facts", x.ready(), 1 + 4);
        x.add(0, 0, 0);
        due("with a fact", x.ready(), 2 + 4);
    }

    // Promise 10: uses.

    static void promise10_0WhenTheFactHasNoPlace() {
        ReteEngine x = new ReteEngine();
        x.add(0, 0, 0);
        due("no conditions", x.uses(0), 0);
        x.condition(1, demand(1, ANY, ANY));
        due("no condition that it fits", x.uses(0), 0);
        x.condition(2, demand(0, ANY, ANY));
        x.condition(2, demand(1, ANY, ANY));
        due("no complete match", x.uses(0), 0);
    }

    static void promise10_aMatchCountsOnceHoweverManyPlaces() {
        ReteEngine x = withRule(demand(0, ANY, ANY), demand(0, ANY, ANY), demand(0, ANY, ANY));
        x.add(0, 0, 0);
        due("one fact in three places", x.uses(0), 1);
        x.add(0, 0, 0);
        due("all matches but the other's own", x.uses(0), 7);
    }

    static void promise10_countsEachPlace() {
        for (int place = 0; place < 3; place++) {
            ReteEngine x = new ReteEngine();
            for (int i = 0; i < 3; i++) {
                x.condition(0, demand(i == place ? 1 : 0, ANY, ANY));
            }
            x.add(0, 0, 0);
            x.add(0, 0, 0);
            x.add(1, 0, 0);
            due("place " + place, x.uses(2), 4);
        }
    }

    static void promise10_countsAllRules() {
        for (int rules = 0; rules < 8; rules++) {
            ReteEngine x = new ReteEngine();
            for (int r = 0; r < 3; r++) {
                x.condition(r, demand(rules >> r & 1, ANY, ANY));
            }
            x.add(1, 0, 0);
            due("rules " + rules, x.uses(0), Integer.bitCount(rules));
        }
    }

    static void promise10_theMostUses() {
        ReteEngine x = new ReteEngine();
        for (int r = 0; r < 3; r++) {
            rule(x, r, demand(0, ANY, ANY), demand(0, ANY, ANY), demand(0, ANY, ANY));
        }
        addAlike(x, 7);
        for (int f = 0; f < 7; f++) {
            due("uses of " + f, x.uses(f), 3 * (343 - 216));
        }
    }

    static void promise10_aNegatedConditionGivesNoPlace() {
        ReteEngine x = withRule(not(0, 1, 1), demand(1, ANY, ANY));
        x.add(0, 0, 0);
        x.add(1, 0, 0);
        due("uses of a fact of its kind", x.uses(0), 0);
        due("uses of the other", x.uses(1), 1);
    }

    static void promise10_noneWhenTheNumberIsTooSmall() {
        for (int f : TOO_SMALL) {
            refused("uses of " + f, NONE, x -> x.uses(f));
        }
    }

    static void promise10_noneWhenTheNumberIsTooLarge() {
        for (int f : tooLarge(6)) {
            refused("uses of " + f, NONE, x -> x.uses(f));
        }
    }

    static void promise10_noneWhenThereIsNoSuchFact() {
        for (int f = 0; f < 7; f++) {
            int fact = f;
            refused("uses of " + f, NONE, State.EMPTY, x -> x.uses(fact));
        }
        for (int f : new int[] {2, 4, 5, 6}) {
            refused("uses of " + f, NONE, State.MIDDLE, x -> x.uses(f));
        }
    }

    // Promise 11: fitting.

    static void promise11_0WhenNoFactFits() {
        ReteEngine x = withRule(demand(0, 1, 2));
        due("no facts", x.fitting(0, 0), 0);
        x.add(1, 1, 2);
        due("another kind", x.fitting(0, 0), 0);
        x.add(0, 0, 2);
        due("another a", x.fitting(0, 0), 0);
        x.add(0, 1, 3);
        due("another b", x.fitting(0, 0), 0);
        x.add(0, 1, 2);
        due("one that fits", x.fitting(0, 0), 1);
        x.remove(3);
        due("it is there no more", x.fitting(0, 0), 0);
    }

    static void promise11_7WhenAllFactsFit() {
        ReteEngine x = withRule(demand(0, ANY, 0), demand(0, 0, ANY), demand(0, X, X));
        addAlike(x, 7);
        for (int i = 0; i < 3; i++) {
            due("condition " + i, x.fitting(0, i), 7);
        }
    }

    static void promise11_aVariableFitsAnything() {
        ReteEngine x = withRule(demand(1, 1, X), demand(0, X, Y));
        for (int value = 0; value < 4; value++) {
            x.add(0, value, 3 - value);
        }
        due("unbound variables", x.fitting(0, 1), 4);
        x.add(1, 1, 2);
        due("a variable that an earlier condition binds", x.fitting(0, 1), 4);
    }

    static void promise11_aVariableTwiceFitsAnything() {
        for (int variable = X; variable <= Z; variable++) {
            ReteEngine x = withRule(demand(0, variable, variable));
            x.add(0, 0, 3);
            x.add(0, 2, 2);
            x.add(0, 3, 1);
            due("equal values or not", x.fitting(0, 0), 3);
        }
    }

    static void promise11_countsForANegatedConditionToo() {
        ReteEngine x = withRule(demand(0, ANY, ANY), not(1, X, 2));
        due("no facts", x.fitting(0, 1), 0);
        x.add(1, 0, 2);
        x.add(1, 3, 2);
        x.add(1, 3, 1);
        due("two of three", x.fitting(0, 1), 2);
    }

    static void promise11_noneWhenTheConditionIsTooSmall() {
        for (int i : TOO_SMALL) {
            for (int r = 0; r < 3; r++) {
                int rule = r;
                refused("fitting of condition " + i, NONE, x -> x.fitting(rule, i));
            }
        }
    }

    static void promise11_noneWhenTheConditionIsTooLarge() {
        for (int i : tooLarge(2)) {
            for (int r = 0; r < 3; r++) {
                int rule = r;
                refused("fitting of condition " + i, NONE, x -> x.fitting(rule, i));
            }
        }
    }

    static void promise11_noneWhenTheRuleHasFewer() {
        for (int r = 0; r < 3; r++) {
            int rule = r;
            refused("fitting of no condition", NONE, State.EMPTY, x -> x.fitting(rule, 0));
        }
        refused("the second of one", NONE, State.MIDDLE, x -> x.fitting(1, 1));
        refused("the first of none", NONE, State.MIDDLE, x -> x.fitting(2, 0));
        ReteEngine dropped = filled();
        dropped.drop(0);
        due("a dropped condition", dropped.fitting(0, 2), NONE);
        due("the one before it", dropped.fitting(0, 1), 2);
    }

    static void promise11_noneWhenTheRuleIsTooSmall() {
        for (int r : TOO_SMALL) {
            refused("fitting of rule " + r, NONE, x -> x.fitting(r, 0));
        }
    }

    static void promise11_noneWhenTheRuleIsTooLarge() {
        for (int r : tooLarge(2)) {
            refused("fitting of rule " + r, NONE, x -> x.fitting(r, 0));
        }
    }

    // Promise 12: partial.

    static void promise12_theFirst0HaveOneMatch() {
        for (State state : State.values()) {
            for (int r = 0; r < 3; r++) {
                due("the first 0 of rule " + r + ", " + state, in(state).partial(r, 0), 1);
            }
        }
    }

    static void promise12_allConditionsHaveTheMatchesOfTheRule() {
        ReteEngine x = filled();
        due("rule 0", x.partial(0, 3), 12);
        due("rule 1", x.partial(1, 3), 4);
        due("rule 2", x.partial(2, 3), 0);
        ReteEngine most = withRule(demand(0, X, X), demand(0, X, X), demand(0, X, X));
        addAlike(most, 7);
        due("the first 1", most.partial(0, 1), 7);
        due("the first 2", most.partial(0, 2), 49);
        due("the first 3", most.partial(0, 3), 343);
    }

    static void promise12_laterConditionsDoNotCount() {
        ReteEngine x = withRule(demand(0, ANY, ANY), not(0, ANY, ANY), demand(2, ANY, ANY));
        x.add(0, 0, 0);
        due("the first 0", x.partial(0, 0), 1);
        due("the first 1", x.partial(0, 1), 1);
        due("the first 2", x.partial(0, 2), 0);
        due("the first 3", x.partial(0, 3), 0);
    }

    static void promise12_noneWhenNIsTooSmall() {
        for (int n : TOO_SMALL) {
            for (int r = 0; r < 3; r++) {
                int rule = r;
                refused("the first " + n, NONE, x -> x.partial(rule, n));
            }
        }
    }

    static void promise12_noneWhenNIsTooLarge() {
        for (int n : tooLarge(3)) {
            for (int r = 0; r < 3; r++) {
                int rule = r;
                refused("the first " + n, NONE, x -> x.partial(rule, n));
            }
        }
    }

    static void promise12_noneWhenTheRuleHasFewer() {
        for (int r = 0; r < 3; r++) {
            int rule = r;
            refused("the first 1 of none", NONE, State.EMPTY, x -> x.partial(rule, 1));
        }
        refused("the first 2 of one", NONE, State.MIDDLE, x -> x.partial(1, 2));
        refused("the first 3 of one", NONE, State.MIDDLE, x -> x.partial(1, 3));
        refused("the first 1 of none", NONE, State.MIDDLE, x -> x.partial(2, 1));
        ReteEngine dropped = filled();
        dropped.drop(0);
        due("with a dropped condition", dropped.partial(0, 3), NONE);
        due("without it", dropped.partial(0, 2), 6);
    }

    static void promise12_noneWhenTheRuleIsTooSmall() {
        for (int r : TOO_SMALL) {
            refused("partial of rule " + r, NONE, x -> x.partial(r, 0));
        }
    }

    static void promise12_noneWhenTheRuleIsTooLarge() {
        for (int r : tooLarge(2)) {
            refused("partial of rule " + r, NONE, x -> x.partial(r, 0));
        }
    }

    // Promise 13: effect.

    static void promise13_0WhenTheNumberStays() {
        ReteEngine x = withRule(demand(0, 1, 1), demand(1, ANY, ANY));
        due("a fact that fits nothing", x.effect(0, 2, 0, 0), 0);
        due("a fact that completes nothing", x.effect(0, 0, 1, 1), 0);
        due("a rule without conditions", x.effect(1, 0, 1, 1), 0);
    }

    static void promise13_theGreatestEffect() {
        ReteEngine x = withRule(demand(0, ANY, ANY), demand(0, ANY, ANY), demand(0, ANY, ANY));
        due("the first fact", x.effect(0, 0, 0, 0), 1);
        addAlike(x, 6);
        due("the seventh fact", x.effect(0, 0, 0, 0), 343 - 216);
    }

    static void promise13_belowZeroWhenItIsLess() {
        ReteEngine x = withRule(demand(0, ANY, ANY), demand(0, ANY, ANY), not(1, ANY, ANY));
        addAlike(x, 6);
        due("all matches end", x.effect(0, 1, 0, 0), -36);
        ReteEngine one = withRule(not(2, 3, 3));
        due("the only match ends", one.effect(0, 2, 3, 3), -1);
    }

    static void promise13_theFactMayHaveMoreThanOnePlace() {
        ReteEngine x = withRule(demand(0, X, Y), demand(0, Y, X));
        x.add(0, 1, 2);
        due("with the other one, both ways", x.effect(0, 0, 2, 1), 2);
        due("with itself", x.effect(0, 0, 3, 3), 1);
        due("a fact that stops its own match", withRule(demand(0, X, X), not(0, 1, X)).effect(0, 0, 1, 1), 0);
    }

    static void promise13_nothingChanges() {
        for (State state : State.values()) {
            ReteEngine x = in(state);
            for (int fact = 0; fact < 48; fact++) {
                for (int r = 0; r < 3; r++) {
                    x.effect(r, fact / 16, fact / 4 % 4, fact % 4);
                }
            }
            stillIn(state, x);
        }
    }

    static void promise13_whatItSaysComesTrue() {
        for (int fact = 0; fact < 48; fact++) {
            for (int r = 0; r < 3; r++) {
                ReteEngine x = middle();
                int before = x.matches(r);
                int effect = x.effect(r, fact / 16, fact / 4 % 4, fact % 4);
                due("matches after effect", x.matches(r), before);
                due("add", x.add(fact / 16, fact / 4 % 4, fact % 4), 2);
                due("matches of " + r + " with fact " + fact, x.matches(r), before + effect);
            }
        }
    }

    static void promise13_refusedWhenTheRuleIsTooSmall() {
        for (int r : TOO_SMALL) {
            refused("effect on rule " + r, EFFECT_REFUSED, x -> x.effect(r, 0, 1, 2));
        }
    }

    static void promise13_refusedWhenTheRuleIsTooLarge() {
        for (int r : tooLarge(2)) {
            refused("effect on rule " + r, EFFECT_REFUSED, x -> x.effect(r, 0, 1, 2));
        }
    }

    static void promise13_refusedWhenTheKindIsTooSmall() {
        for (int kind : TOO_SMALL) {
            refused("effect of kind " + kind, EFFECT_REFUSED, x -> x.effect(0, kind, 1, 2));
        }
    }

    static void promise13_refusedWhenTheKindIsTooLarge() {
        for (int kind : tooLarge(2)) {
            refused("effect of kind " + kind, EFFECT_REFUSED, x -> x.effect(0, kind, 1, 2));
        }
    }

    static void promise13_refusedWhenAIsTooSmall() {
        for (int a : TOO_SMALL) {
            refused("effect of a " + a, EFFECT_REFUSED, x -> x.effect(0, 0, a, 2));
        }
    }

    static void promise13_refusedWhenAIsTooLarge() {
        for (int a : tooLarge(3)) {
            refused("effect of a " + a, EFFECT_REFUSED, x -> x.effect(0, 0, a, 2));
        }
    }

    static void promise13_refusedWhenBIsTooSmall() {
        for (int b : TOO_SMALL) {
            refused("effect of b " + b, EFFECT_REFUSED, x -> x.effect(0, 0, 1, b));
        }
    }

    static void promise13_refusedWhenBIsTooLarge() {
        for (int b : tooLarge(3)) {
            refused("effect of b " + b, EFFECT_REFUSED, x -> x.effect(0, 0, 1, b));
        }
    }

    static void promise13_refusedWhenSevenAreThere() {
        for (int r = 0; r < 3; r++) {
            int rule = r;
            for (int fact = 0; fact < 48; fact++) {
                int form = fact;
                refused("effect of an eighth fact", EFFECT_REFUSED, State.FILLED,
                    x -> x.effect(rule, form / 16, form / 4 % 4, form % 4));
            }
            refusedWithRoomInTheRules("effect of an eighth fact", EFFECT_REFUSED, x -> x.effect(rule, 0, 0, 0));
        }
    }

    static void promise13_notRefusedWhenSixAreThere() {
        for (int f = 0; f < 7; f++) {
            ReteEngine x = withRule(demand(0, ANY, ANY));
            keepFacts(x, 127 - (1 << f));
            due("all but fact " + f, x.effect(0, 0, 0, 0), 1);
            due("facts stay", x.facts(), 127 - (1 << f));
            due("matches stay", x.matches(0), 6);
        }
    }

    // Promise 14: order and limits.

    static void promise14_conditionTestsTheFormBeforeFull() {
        for (int what : new int[] {-1, 3, 511, 512, Integer.MIN_VALUE, Integer.MAX_VALUE}) {
            for (int r = 0; r < 3; r++) {
                int rule = r;
                refused("form " + what + " for a full rule", NONE, State.FILLED, x -> x.condition(rule, what));
            }
        }
        refused("a right form for a full rule", FULL, State.FILLED, x -> x.condition(0, 510));
    }

    static void promise14_conditionTestsTheRuleBeforeFull() {
        for (int r : new int[] {-1, 3, Integer.MIN_VALUE, Integer.MAX_VALUE}) {
            refused("rule " + r + " when all rules are full", NONE, State.FILLED, x -> x.condition(r, 0));
        }
    }

    static void promise14_addTestsTheKindBeforeFull() {
        for (int kind : new int[] {-1, 3, Integer.MIN_VALUE, Integer.MAX_VALUE}) {
            refused("kind " + kind + " with seven facts", NONE, State.FILLED, x -> x.add(kind, 0, 0));
        }
        refused("a right kind with seven facts", FULL, State.FILLED, x -> x.add(2, 0, 0));
    }

    static void promise14_addTestsTheValuesBeforeFull() {
        for (int value : new int[] {-1, 4, Integer.MIN_VALUE, Integer.MAX_VALUE}) {
            refused("a " + value + " with seven facts", NONE, State.FILLED, x -> x.add(0, value, 0));
            refused("b " + value + " with seven facts", NONE, State.FILLED, x -> x.add(0, 0, value));
        }
        refused("right values with seven facts", FULL, State.FILLED, x -> x.add(0, 3, 3));
    }
}
