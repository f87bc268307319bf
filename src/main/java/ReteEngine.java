/** Keeps track of which facts fit which rules. */
public final class ReteEngine {
    public static final int NONE = -1;
    public static final int FULL = -2;

    private static final int RULES = 3;
    private static final int CONDITIONS = 3;
    private static final int CONDITIONS_OF_ALL_RULES = RULES * CONDITIONS;
    private static final int FACTS = 7;
    private static final int KINDS = 3;
    private static final int VALUES = 4;

    private static final int FIRST_VARIABLE = 4;
    private static final int ANYTHING = 7;
    private static final int NEGATED = 256;
    private static final int CONDITION_FORMS = 512;

    // No fact has this number, so it can stand in a match for "no fact here".
    private static final int NO_FACT = 7;
    private static final int MATCH_NUMBERS = 512;

    private static final int EFFECT_REFUSED = -1000;

    // The variables bound so far are one number with three bits for each
    // variable: 0 when it is unbound, otherwise its value + 1.
    private static final int NOTHING_BOUND = 0;

    private final int[] conditions = new int[CONDITIONS_OF_ALL_RULES];
    private final int[] sizes = new int[RULES];
    private final int[] kinds = new int[FACTS];
    private final int[] firstValues = new int[FACTS];
    private final int[] secondValues = new int[FACTS];
    private int present = 0;

    public ReteEngine() {
    }

    public int condition(int r, int what) {
        if (!isRule(r) || !isConditionForm(what)) {
            return NONE;
        }
        if (sizes[r] >= CONDITIONS) {
            return FULL;
        }
        conditions[r * CONDITIONS + sizes[r]] = what;
        sizes[r]++;
        return sizes[r];
    }

    public int drop(int r) {
        if (!isRule(r) || sizes[r] == 0) {
            return NONE;
        }
        sizes[r]--;
        return sizes[r];
    }

    public int add(int kind, int a, int b) {
        if (!isFactForm(kind, a, b)) {
            return NONE;
        }
        int f = leastFreeNumber();
        if (f == NONE) {
            return FULL;
        }
        putFact(f, kind, a, b);
        return f;
    }

    public boolean remove(int f) {
        if (!isFact(f)) {
            return false;
        }
        takeFact(f);
        return true;
    }

    public int facts() {
        return present;
    }

    public int matches(int r) {
        return isRule(r) ? countMatches(r, sizes[r]) : NONE;
    }

    public int match(int r, int k) {
        if (!isRule(r)) {
            return NONE;
        }
        int lesser = 0;
        for (int number = 0; number < MATCH_NUMBERS; number++) {
            if (isMatch(r, sizes[r], number)) {
                if (lesser == k) {
                    return number;
                }
                lesser++;
            }
        }
        return NONE;
    }

    public int ready() {
        int rules = 0;
        for (int r = 0; r < RULES; r++) {
            if (countMatches(r, sizes[r]) > 0) {
                rules |= 1 << r;
            }
        }
        return rules;
    }

    public int uses(int f) {
        if (!isFact(f)) {
            return NONE;
        }
        int count = 0;
        for (int r = 0; r < RULES; r++) {
            for (int number = 0; number < MATCH_NUMBERS; number++) {
                if (hasPlace(f, number) && isMatch(r, sizes[r], number)) {
                    count++;
                }
            }
        }
        return count;
    }

    public int fitting(int r, int i) {
        if (!isRule(r) || i < 0 || i >= sizes[r]) {
            return NONE;
        }
        int what = conditions[r * CONDITIONS + i];
        int count = 0;
        for (int f = 0; f < FACTS; f++) {
            if (isFact(f) && fitsKindAndNumbers(what, f)) {
                count++;
            }
        }
        return count;
    }

    public int partial(int r, int n) {
        if (!isRule(r) || n < 0 || n > sizes[r]) {
            return NONE;
        }
        return countMatches(r, n);
    }

    public int effect(int r, int kind, int a, int b) {
        if (!isRule(r) || !isFactForm(kind, a, b)) {
            return EFFECT_REFUSED;
        }
        int f = leastFreeNumber();
        if (f == NONE) {
            return EFFECT_REFUSED;
        }
        int before = countMatches(r, sizes[r]);
        putFact(f, kind, a, b);
        int after = countMatches(r, sizes[r]);
        takeFact(f);
        return after - before;
    }

    private static boolean isRule(int r) {
        return r >= 0 && r < RULES;
    }

    private static boolean isConditionForm(int what) {
        return what >= 0 && what < CONDITION_FORMS && kindOf(what) < KINDS;
    }

    private static boolean isFactForm(int kind, int a, int b) {
        return kind >= 0 && kind < KINDS
            && a >= 0 && a < VALUES
            && b >= 0 && b < VALUES;
    }

    private static int kindOf(int what) {
        return what & 3;
    }

    private static int firstDemand(int what) {
        return (what >> 2) & 7;
    }

    private static int secondDemand(int what) {
        return (what >> 5) & 7;
    }

    private static boolean isNegated(int what) {
        return (what & NEGATED) != 0;
    }

    private boolean isFact(int f) {
        return f >= 0 && f < FACTS && ((present >> f) & 1) == 1;
    }

    private int leastFreeNumber() {
        for (int f = 0; f < FACTS; f++) {
            if (!isFact(f)) {
                return f;
            }
        }
        return NONE;
    }

    private void putFact(int f, int kind, int a, int b) {
        kinds[f] = kind;
        firstValues[f] = a;
        secondValues[f] = b;
        present |= 1 << f;
    }

    private void takeFact(int f) {
        present &= ~(1 << f);
    }

    // Every match is found by trying all match numbers: they are few, and
    // trying them upwards gives the matches in the order the document asks.
    private int countMatches(int r, int n) {
        int count = 0;
        for (int number = 0; number < MATCH_NUMBERS; number++) {
            if (isMatch(r, n, number)) {
                count++;
            }
        }
        return count;
    }

    private boolean isMatch(int r, int n, int number) {
        int bound = NOTHING_BOUND;
        for (int i = 0; i < CONDITIONS; i++) {
            int f = factAt(number, i);
            if (i < n) {
                bound = passCondition(conditions[r * CONDITIONS + i], f, bound);
                if (bound == NONE) {
                    return false;
                }
            } else if (f != NO_FACT) {
                return false;
            }
        }
        return true;
    }

    private static int factAt(int number, int i) {
        return (number >> (3 * i)) & 7;
    }

    private static boolean hasPlace(int f, int number) {
        for (int i = 0; i < CONDITIONS; i++) {
            if (factAt(number, i) == f) {
                return true;
            }
        }
        return false;
    }

    // Answers the variables bound after the condition, or NONE when the match
    // cannot go on with f as its fact.
    private int passCondition(int what, int f, int bound) {
        if (!isNegated(what)) {
            return bindFact(what, f, bound);
        }
        if (f != NO_FACT) {
            return NONE;
        }
        for (int other = 0; other < FACTS; other++) {
            if (bindFact(what, other, bound) != NONE) {
                return NONE;
            }
        }
        return bound;
    }

    private int bindFact(int what, int f, int bound) {
        if (!isFact(f) || kinds[f] != kindOf(what)) {
            return NONE;
        }
        int demand = firstDemand(what);
        int boundByFirst = bindValue(demand, firstValues[f], bound);
        if (boundByFirst == NONE) {
            return NONE;
        }
        demand = secondDemand(what);
        return bindValue(demand, secondValues[f], boundByFirst);
    }

    private static int bindValue(int demand, int value, int bound) {
        if (demand == ANYTHING) {
            return bound;
        }
        if (demand < FIRST_VARIABLE) {
            return demand == value ? bound : NONE;
        }
        int shift = 3 * (demand - FIRST_VARIABLE);
        int held = (bound >> shift) & 7;
        if (held == 0) {
            return bound | ((value + 1) << shift);
        }
        return held == value + 1 ? bound : NONE;
    }

    private boolean fitsKindAndNumbers(int what, int f) {
        int onFirst = firstDemand(what);
        int onSecond = secondDemand(what);
        return kinds[f] == kindOf(what)
            && (onFirst >= FIRST_VARIABLE || onFirst == firstValues[f])
            && (onSecond >= FIRST_VARIABLE || onSecond == secondValues[f]);
    }
}
