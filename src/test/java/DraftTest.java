/** Promises 2 and 3: draftRange and draftSet. */
public final class DraftTest {
    private static final int[] ODD = {Integer.MIN_VALUE, -16, -1, 16, 17, 32, Integer.MAX_VALUE};

    public static void main(String[] args) {
        everyRange(0);
        everyRange(1);
        wrongRanges();
        sets();
        fieldsAreApart();
        Check.finish();
    }

    /** Puts each pair of ends, right or wrong, into the draft, and reads the packets that a rule made of it owns. */
    private static void everyRange(int field) {
        for (int from = -2; from <= 17; from++) {
            for (int to = -2; to <= 17; to++) {
                RuleAnomaly x = new RuleAnomaly();
                x.draftRange(field, 6, 9);
                boolean good = from >= 0 && to <= 15 && from <= to;
                String call = "draftRange(" + field + ", " + from + ", " + to + ")";
                Check.due(call, good, x.draftRange(field, from, to));
                x.insert(0, 1);
                int low = good ? from : 6;
                int high = good ? to : 9;
                Check.due(call + " then owned(0)", 32 * (high - low + 1), x.owned(0));
                for (int v = 0; v <= 15; v++) {
                    int want = low <= v && v <= high ? 0 : RuleAnomaly.NONE;
                    int got = field == 0 ? x.decider(v, 3, 0) : x.decider(3, v, 0);
                    Check.due(call + " then decider at " + v, want, got);
                }
            }
        }
    }

    private static void wrongRanges() {
        RuleAnomaly x = new RuleAnomaly();
        x.draftRange(0, 2, 3);
        x.draftRange(1, 4, 6);
        for (int odd : ODD) {
            Check.due("draftRange(0, odd, 8)", false, x.draftRange(0, odd, 8));
            Check.due("draftRange(0, 8, odd)", false, x.draftRange(0, 8, odd));
            Check.due("draftRange(1, odd, odd)", false, x.draftRange(1, odd, odd));
            Check.due("draftRange(odd, 0, 8)", false, x.draftRange(odd, 0, 8));
        }
        Check.due("draftRange(2, 0, 8)", false, x.draftRange(2, 0, 8));
        x.insert(0, 1);
        Check.due("owned(0) after wrong ranges", 2 * 3 * 2, x.owned(0));
        Check.due("firstOwned(0) after wrong ranges", 32 * 2 + 2 * 4, x.firstOwned(0));
    }

    private static void sets() {
        int[] counts = {256, 256, 512};
        int[] firsts = {0, 1, 0};
        for (int which = 0; which <= 2; which++) {
            RuleAnomaly x = new RuleAnomaly();
            Check.due("draftSet(" + which + ")", true, x.draftSet(which));
            for (int odd : ODD) {
                Check.due("draftSet(" + odd + ")", false, x.draftSet(odd));
            }
            Check.due("draftSet(3)", false, x.draftSet(3));
            x.insert(0, 0);
            Check.due("set " + which + ": owned(0)", counts[which], x.owned(0));
            Check.due("set " + which + ": firstOwned(0)", firsts[which], x.firstOwned(0));
            Check.due("set " + which + ": decider(7, 7, 0)", which == 1 ? RuleAnomaly.NONE : 0, x.decider(7, 7, 0));
            Check.due("set " + which + ": decider(7, 7, 1)", which == 0 ? RuleAnomaly.NONE : 0, x.decider(7, 7, 1));
        }
        RuleAnomaly x = new RuleAnomaly();
        x.draftSet(0);
        x.draftSet(2);
        x.insert(0, 0);
        Check.due("set back to both: owned(0)", 512, x.owned(0));
    }

    private static void fieldsAreApart() {
        RuleAnomaly x = new RuleAnomaly();
        x.draftRange(0, 1, 2);
        x.draftRange(1, 5, 9);
        x.draftSet(1);
        x.insert(0, 1);
        Check.due("three fields: owned(0)", 2 * 5, x.owned(0));
        Check.due("three fields: firstOwned(0)", 32 + 2 * 5 + 1, x.firstOwned(0));
        // A rule in the list does not follow the draft.
        x.draftRange(0, 0, 15);
        x.draftSet(2);
        Check.due("later draft: owned(0)", 2 * 5, x.owned(0));
    }
}
