/** An ordered list of packet rules, and what is wrong with it. */
public final class RuleAnomaly {
    public static final int CLEAN = 0;
    public static final int SHADOWED = 1;
    public static final int USELESS = 2;
    public static final int REDUNDANT = 3;
    public static final int CORRELATED = 4;
    public static final int GENERAL = 5;
    public static final int BAD = -1;
    public static final int FULL = -2;
    public static final int NONE = -3;

    private static final int MAX_RULES = 10;
    private static final int PACKETS = 512;
    private static final int MAX_VALUE = 15;
    private static final int BOTH = 2;
    private static final int DENY = 0;
    private static final int ALLOW = 1;
    // No rule has this number, so leaving it out leaves out nothing.
    private static final int NO_RULE = -1;

    private final int[] sFrom = new int[MAX_RULES];
    private final int[] sTo = new int[MAX_RULES];
    private final int[] dFrom = new int[MAX_RULES];
    private final int[] dTo = new int[MAX_RULES];
    private final int[] sets = new int[MAX_RULES];
    private final int[] actions = new int[MAX_RULES];
    private int ruleCount = 0;

    private int draftSFrom = 0;
    private int draftSTo = MAX_VALUE;
    private int draftDFrom = 0;
    private int draftDTo = MAX_VALUE;
    private int draftP = BOTH;

    private final int[] saved = new int[PACKETS];

    public RuleAnomaly() {
    }

    public boolean draftRange(int field, int from, int to) {
        if (field < 0 || field > 1 || from < 0 || to > MAX_VALUE || from > to) {
            return false;
        }
        if (field == 0) {
            draftSFrom = from;
            draftSTo = to;
        } else {
            draftDFrom = from;
            draftDTo = to;
        }
        return true;
    }

    public boolean draftSet(int which) {
        if (which < 0 || which > BOTH) {
            return false;
        }
        draftP = which;
        return true;
    }

    public int insert(int at, int action) {
        if (ruleCount >= MAX_RULES) {
            return FULL;
        }
        if (at < 0 || at > ruleCount || (action != DENY && action != ALLOW)) {
            return BAD;
        }
        // From the back, so that no rule is overwritten before it has moved.
        for (int k = ruleCount; k > at; k--) {
            copyRule(k - 1, k);
        }
        placeDraft(at, action);
        ruleCount++;
        return ruleCount;
    }

    public int remove(int i) {
        if (!isRule(i)) {
            return BAD;
        }
        for (int k = i + 1; k < ruleCount; k++) {
            copyRule(k, k - 1);
        }
        ruleCount--;
        return ruleCount;
    }

    public int decider(int s, int d, int p) {
        if (s < 0 || s > MAX_VALUE || d < 0 || d > MAX_VALUE || p < 0 || p > 1) {
            return BAD;
        }
        return firstMatch(32 * s + 2 * d + p, NO_RULE);
    }

    public int owned(int i) {
        if (!isRule(i)) {
            return BAD;
        }
        int total = 0;
        for (int packet = 0; packet < PACKETS; packet++) {
            if (firstMatch(packet, NO_RULE) == i) {
                total++;
            }
        }
        return total;
    }

    public int firstOwned(int i) {
        if (!isRule(i)) {
            return BAD;
        }
        return smallestOwned(i);
    }

    public int fault(int i) {
        if (!isRule(i)) {
            return BAD;
        }
        if (smallestOwned(i) == NONE) {
            return isContradicted(i) ? SHADOWED : USELESS;
        }
        if (isRedundant(i)) {
            return REDUNDANT;
        }
        if (isCorrelated(i)) {
            return CORRELATED;
        }
        return isGeneral(i) ? GENERAL : CLEAN;
    }

    public int save() {
        int allowed = 0;
        for (int packet = 0; packet < PACKETS; packet++) {
            saved[packet] = decision(packet, NO_RULE);
            if (saved[packet] == ALLOW) {
                allowed++;
            }
        }
        return allowed;
    }

    public int changed() {
        int total = 0;
        for (int packet = 0; packet < PACKETS; packet++) {
            if (decision(packet, NO_RULE) != saved[packet]) {
                total++;
            }
        }
        return total;
    }

    public int firstChanged() {
        for (int packet = 0; packet < PACKETS; packet++) {
            if (decision(packet, NO_RULE) != saved[packet]) {
                return packet;
            }
        }
        return NONE;
    }

    private boolean isRule(int i) {
        return i >= 0 && i < ruleCount;
    }

    private void copyRule(int source, int target) {
        sFrom[target] = sFrom[source];
        sTo[target] = sTo[source];
        dFrom[target] = dFrom[source];
        dTo[target] = dTo[source];
        sets[target] = sets[source];
        actions[target] = actions[source];
    }

    private void placeDraft(int at, int action) {
        sFrom[at] = draftSFrom;
        sTo[at] = draftSTo;
        dFrom[at] = draftDFrom;
        dTo[at] = draftDTo;
        sets[at] = draftP;
        actions[at] = action;
    }

    private boolean matches(int rule, int packet) {
        int s = packet / 32;
        int d = packet / 2 % 16;
        int p = packet % 2;
        return sFrom[rule] <= s && s <= sTo[rule]
            && dFrom[rule] <= d && d <= dTo[rule]
            && (sets[rule] == BOTH || sets[rule] == p);
    }

    private int firstMatch(int packet, int leftOut) {
        for (int rule = 0; rule < ruleCount; rule++) {
            if (rule != leftOut && matches(rule, packet)) {
                return rule;
            }
        }
        return NONE;
    }

    private int decision(int packet, int leftOut) {
        int rule = firstMatch(packet, leftOut);
        return rule == NONE ? DENY : actions[rule];
    }

    private int smallestOwned(int i) {
        for (int packet = 0; packet < PACKETS; packet++) {
            if (firstMatch(packet, NO_RULE) == i) {
                return packet;
            }
        }
        return NONE;
    }

    private boolean isContradicted(int i) {
        for (int packet = 0; packet < PACKETS; packet++) {
            if (matches(i, packet) && decision(packet, NO_RULE) != actions[i]) {
                return true;
            }
        }
        return false;
    }

    private boolean isRedundant(int i) {
        for (int packet = 0; packet < PACKETS; packet++) {
            if (decision(packet, NO_RULE) != decision(packet, i)) {
                return false;
            }
        }
        return true;
    }

    private boolean isCorrelated(int i) {
        for (int earlier = 0; earlier < i; earlier++) {
            if (actions[earlier] != actions[i] && overlaps(earlier, i)
                && exceeds(i, earlier) && exceeds(earlier, i)) {
                return true;
            }
        }
        return false;
    }

    private boolean isGeneral(int i) {
        for (int earlier = 0; earlier < i; earlier++) {
            if (actions[earlier] != actions[i] && !exceeds(earlier, i)) {
                return true;
            }
        }
        return false;
    }

    /** Some packet is matched by both rules. */
    private boolean overlaps(int one, int other) {
        for (int packet = 0; packet < PACKETS; packet++) {
            if (matches(one, packet) && matches(other, packet)) {
                return true;
            }
        }
        return false;
    }

    /** Some packet is matched by the first rule and not by the other. */
    private boolean exceeds(int one, int other) {
        for (int packet = 0; packet < PACKETS; packet++) {
            if (matches(one, packet) && !matches(other, packet)) {
                return true;
            }
        }
        return false;
    }
}
