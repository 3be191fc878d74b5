import java.util.ArrayList;
import java.util.Arrays;
import java.util.List;
import java.util.Random;

/**
 * Promises 1 to 13 together: long runs of calls, right and wrong ones mixed, against a model that holds each rule as the
 * set of its packets. The seeds are fixed, so each run is the same every time.
 */
public final class ModelTest {
    private static final int RUNS = 1500;
    // A step makes one or two calls, and an object is used for at most 512.
    private static final int STEPS = 256;

    private static final int[] FAULTS_MET = new int[6];

    private static final class Rule {
        final boolean[] packets = new boolean[512];
        int action;
    }

    private final List<Rule> rules = new ArrayList<>();
    private boolean[] saved = new boolean[512];
    private final int[] low = {0, 0};
    private final int[] high = {15, 15};
    private int set = 2;

    private final RuleAnomaly x = new RuleAnomaly();
    private final Random random;
    private final String run;

    private ModelTest(long seed) {
        random = new Random(seed);
        run = "seed " + seed + ": ";
    }

    public static void main(String[] args) {
        for (long seed = 1; seed <= RUNS; seed++) {
            ModelTest test = new ModelTest(seed);
            for (int n = 0; n < STEPS; n++) {
                test.step(n);
            }
        }
        for (int fault = 0; fault < 6; fault++) {
            Check.due("fault " + fault + " was met", true, FAULTS_MET[fault] > 100);
        }
        Check.finish();
    }

    private int number(int least, int most) {
        return least + random.nextInt(most - least + 1);
    }

    private void step(int n) {
        String at = run + "step " + n + ": ";
        switch (random.nextInt(14)) {
            case 0, 1, 2 -> callDraftRange(at);
            case 3 -> callDraftSet(at);
            case 4, 5, 6 -> callInsert(at);
            case 7 -> callRemove(at);
            case 8 -> callDecider(at);
            case 9 -> callOwned(at);
            case 10, 11, 12 -> callFault(at);
            default -> callSaved(at);
        }
    }

    private void callDraftRange(String at) {
        int field = random.nextInt(10) == 0 ? number(-2, 3) : number(0, 1);
        int from = number(-1, 16);
        int to = random.nextInt(4) == 0 ? number(-1, 16) : from + number(0, 6);
        boolean good = (field == 0 || field == 1) && 0 <= from && from <= to && to <= 15;
        if (good) {
            low[field] = from;
            high[field] = to;
        }
        Check.due(at + "draftRange(" + field + ", " + from + ", " + to + ")", good, x.draftRange(field, from, to));
    }

    private void callDraftSet(String at) {
        int which = number(-1, 3);
        boolean good = which == 0 || which == 1 || which == 2;
        if (good) {
            set = which;
        }
        Check.due(at + "draftSet(" + which + ")", good, x.draftSet(which));
    }

    private void callInsert(String at) {
        int place = random.nextInt(6) == 0 ? number(-2, 12) : number(0, rules.size());
        int action = random.nextInt(10) == 0 ? number(-1, 2) : number(0, 1);
        int want;
        if (rules.size() == 10) {
            want = -2;
        } else if (place < 0 || place > rules.size() || action < 0 || action > 1) {
            want = -1;
        } else {
            Rule rule = new Rule();
            rule.action = action;
            for (int s = low[0]; s <= high[0]; s++) {
                for (int d = low[1]; d <= high[1]; d++) {
                    rule.packets[32 * s + 2 * d] = set != 1;
                    rule.packets[32 * s + 2 * d + 1] = set != 0;
                }
            }
            rules.add(place, rule);
            want = rules.size();
        }
        Check.due(at + "insert(" + place + ", " + action + ")", want, x.insert(place, action));
    }

    private void callRemove(String at) {
        int i = number(-1, 11);
        int want = -1;
        if (i >= 0 && i < rules.size()) {
            rules.remove(i);
            want = rules.size();
        }
        Check.due(at + "remove(" + i + ")", want, x.remove(i));
    }

    private void callDecider(String at) {
        int s = number(-1, 16);
        int d = number(-1, 16);
        int p = random.nextInt(8) == 0 ? number(-1, 2) : number(0, 1);
        boolean good = s >= 0 && s <= 15 && d >= 0 && d <= 15 && p >= 0 && p <= 1;
        int want = good ? deciders(rules)[32 * s + 2 * d + p] : -1;
        Check.due(at + "decider(" + s + ", " + d + ", " + p + ")", want, x.decider(s, d, p));
    }

    private void callOwned(String at) {
        int i = number(-1, 10);
        int count = -1;
        int first = -1;
        if (i >= 0 && i < rules.size()) {
            count = 0;
            first = -3;
            int[] deciders = deciders(rules);
            for (int packet = 511; packet >= 0; packet--) {
                if (deciders[packet] == i) {
                    count++;
                    first = packet;
                }
            }
        }
        Check.due(at + "owned(" + i + ")", count, x.owned(i));
        Check.due(at + "firstOwned(" + i + ")", first, x.firstOwned(i));
    }

    private void callFault(String at) {
        int i = number(-1, 10);
        int want = -1;
        if (i >= 0 && i < rules.size()) {
            want = faultOf(i);
            FAULTS_MET[want]++;
        }
        Check.due(at + "fault(" + i + ")", want, x.fault(i));
    }

    private void callSaved(String at) {
        boolean[] present = decisions(rules);
        int count = 0;
        int changed = 0;
        int first = -3;
        for (int packet = 511; packet >= 0; packet--) {
            count += present[packet] ? 1 : 0;
            if (present[packet] != saved[packet]) {
                changed++;
                first = packet;
            }
        }
        switch (random.nextInt(3)) {
            case 0 -> {
                saved = present;
                Check.due(at + "save()", count, x.save());
            }
            case 1 -> Check.due(at + "changed()", changed, x.changed());
            default -> Check.due(at + "firstChanged()", first, x.firstChanged());
        }
    }

    /** Paints the rules from the last to the first, so that the first one stays on top. */
    private static int[] deciders(List<Rule> list) {
        int[] result = new int[512];
        Arrays.fill(result, -3);
        for (int i = list.size() - 1; i >= 0; i--) {
            for (int packet = 0; packet < 512; packet++) {
                if (list.get(i).packets[packet]) {
                    result[packet] = i;
                }
            }
        }
        return result;
    }

    private static boolean[] decisions(List<Rule> list) {
        int[] deciders = deciders(list);
        boolean[] result = new boolean[512];
        for (int packet = 0; packet < 512; packet++) {
            result[packet] = deciders[packet] >= 0 && list.get(deciders[packet]).action == 1;
        }
        return result;
    }

    private int faultOf(int i) {
        Rule rule = rules.get(i);
        int[] deciders = deciders(rules);
        boolean[] present = decisions(rules);
        boolean owns = false;
        boolean otherwise = false;
        for (int packet = 0; packet < 512; packet++) {
            owns |= deciders[packet] == i;
            otherwise |= rule.packets[packet] && present[packet] != (rule.action == 1);
        }
        if (!owns) {
            return otherwise ? 1 : 2;
        }
        List<Rule> without = new ArrayList<>(rules);
        without.remove(i);
        if (Arrays.equals(present, decisions(without))) {
            return 3;
        }
        boolean correlated = false;
        boolean general = false;
        for (Rule earlier : rules.subList(0, i)) {
            if (earlier.action == rule.action) {
                continue;
            }
            int both = 0;
            int mine = 0;
            int theirs = 0;
            for (int packet = 0; packet < 512; packet++) {
                mine += rule.packets[packet] ? 1 : 0;
                theirs += earlier.packets[packet] ? 1 : 0;
                both += rule.packets[packet] && earlier.packets[packet] ? 1 : 0;
            }
            correlated |= both > 0 && both < mine && both < theirs;
            general |= both == theirs;
        }
        return correlated ? 4 : general ? 5 : 0;
    }
}
