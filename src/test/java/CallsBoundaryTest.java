/** Promises 1 to 12: each sentence there that names a boundary has a method of its own. */
public final class CallsBoundaryTest {
    private static final int BAD = RuleAnomaly.BAD;
    private static final int FULL = RuleAnomaly.FULL;
    private static final int NONE = RuleAnomaly.NONE;

    public static void main(String[] args) {
        newObjectHasNoRules();
        newObjectHasSavedNothing();
        newDraftMatchesAll();
        draftRangeField();
        draftRangeEnds();
        draftRangeFromAboveTo();
        draftRangeWrongTwice();
        draftSetWhich();
        insertWhenFull();
        insertFullBeforeBad();
        insertAt();
        insertAction();
        insertAnswersTheNumberOfRules();
        insertLeavesTheDraft();
        removeNoRule();
        removeFirstAndLast();
        removeToNoneAndFillAgain();
        deciderOutside();
        deciderWhoseNumberWouldFit();
        deciderNone();
        ruleNumbersOutside();
        ownedLeastAndMost();
        firstOwnedEnds();
        saveLeastAndMost();
        changedLeastAndMost();
        firstChangedEnds();
        lastCall();
        Check.finish();
    }

    /** Promise 1: "No rules". */
    private static void newObjectHasNoRules() {
        for (int i : new int[] {-1, 0, 1, 9, 10}) {
            RuleAnomaly x = new RuleAnomaly();
            Check.due("new: remove(" + i + ")", BAD, x.remove(i));
            Check.due("new: owned(" + i + ")", BAD, x.owned(i));
            Check.due("new: firstOwned(" + i + ")", BAD, x.firstOwned(i));
            Check.due("new: fault(" + i + ")", BAD, x.fault(i));
        }
        RuleAnomaly x = new RuleAnomaly();
        Check.due("new: decider(0, 0, 0)", NONE, x.decider(0, 0, 0));
        Check.due("new: decider(15, 15, 1)", NONE, x.decider(15, 15, 1));
        Check.due("new: insert(1, 1)", BAD, x.insert(1, 1));
        Check.due("new: insert(-1, 1)", BAD, x.insert(-1, 1));
        Check.due("new: insert(0, 1)", 1, x.insert(0, 1));
    }

    /** Promise 1: "every saved decision 0". */
    private static void newObjectHasSavedNothing() {
        RuleAnomaly x = new RuleAnomaly();
        Check.due("new: changed()", 0, x.changed());
        Check.due("new: firstChanged()", NONE, x.firstChanged());
        Check.due("new: save()", 0, x.save());
        State made = State.of(RuleAnomaly::new);
        Check.due("new: no saved 1", false, made.saved().contains("1"));
    }

    /** Promise 1: "the DRAFT, from which rules are made, matches all packets", and each part does until it is set. */
    private static void newDraftMatchesAll() {
        State made = State.of(RuleAnomaly::new);
        Check.due("new: the draft leaves out none", false, made.draft().contains("0"));
        RuleAnomaly x = new RuleAnomaly();
        x.insert(0, 1);
        Check.due("first draft: owned(0)", 512, x.owned(0));
        x = new RuleAnomaly();
        x.draftRange(0, 4, 4);
        x.insert(0, 1);
        Check.due("only s drafted: owned(0)", 32, x.owned(0));
        x = new RuleAnomaly();
        x.draftRange(1, 4, 4);
        x.insert(0, 1);
        Check.due("only d drafted: owned(0)", 32, x.owned(0));
        x = new RuleAnomaly();
        x.draftSet(1);
        x.insert(0, 1);
        Check.due("only p drafted: owned(0)", 256, x.owned(0));
    }

    private static void drafted(String story, RuleAnomaly x, int owned, int first) {
        x.insert(0, 1);
        Check.due(story + ": owned(0)", owned, x.owned(0));
        Check.due(story + ": firstOwned(0)", first, x.firstOwned(0));
    }

    private static RuleAnomaly withDraft() {
        RuleAnomaly x = new RuleAnomaly();
        x.draftRange(0, 6, 9);
        x.draftRange(1, 5, 7);
        x.draftSet(1);
        return x;
    }

    private static void draftIsAsBefore(String story, RuleAnomaly x) {
        drafted(story, x, 4 * 3, 32 * 6 + 2 * 5 + 1);
    }

    /** Promise 2: "field outside 0..1 .. refused, answers false". */
    private static void draftRangeField() {
        for (int field : Edges.outside(0, 1)) {
            String call = "draftRange(" + field + ", 2, 3)";
            RuleAnomaly x = withDraft();
            Check.due(call, false, x.draftRange(field, 2, 3));
            draftIsAsBefore(call, x);
        }
        RuleAnomaly x = withDraft();
        Check.due("draftRange(0, 2, 3)", true, x.draftRange(0, 2, 3));
        drafted("draftRange(0, 2, 3)", x, 2 * 3, 32 * 2 + 2 * 5 + 1);
        x = withDraft();
        Check.due("draftRange(1, 2, 3)", true, x.draftRange(1, 2, 3));
        drafted("draftRange(1, 2, 3)", x, 4 * 2, 32 * 6 + 2 * 2 + 1);
    }

    /** Promise 2: "from or to outside 0..15 .. refused, answers false". */
    private static void draftRangeEnds() {
        for (int field = 0; field <= 1; field++) {
            for (int odd : Edges.outside(0, 15)) {
                int[][] wrong = {{odd, 0}, {odd, 8}, {odd, 15}, {0, odd}, {8, odd}, {15, odd}, {odd, odd}};
                for (int[] ends : wrong) {
                    String call = "draftRange(" + field + ", " + ends[0] + ", " + ends[1] + ")";
                    RuleAnomaly x = withDraft();
                    Check.due(call, false, x.draftRange(field, ends[0], ends[1]));
                    draftIsAsBefore(call, x);
                }
            }
            for (int[] ends : new int[][] {{0, 0}, {0, 1}, {0, 15}, {14, 15}, {15, 15}}) {
                String call = "draftRange(" + field + ", " + ends[0] + ", " + ends[1] + ")";
                RuleAnomaly x = withDraft();
                Check.due(call, true, x.draftRange(field, ends[0], ends[1]));
                int wide = ends[1] - ends[0] + 1;
                int first = field == 0 ? 32 * ends[0] + 2 * 5 + 1 : 32 * 6 + 2 * ends[0] + 1;
                drafted(call, x, wide * (field == 0 ? 3 : 4), first);
            }
        }
    }

    /** Promise 2: "from > to: refused, answers false": equal is taken, one above is not. */
    private static void draftRangeFromAboveTo() {
        for (int field = 0; field <= 1; field++) {
            for (int from = 0; from <= 15; from++) {
                for (int to = 0; to <= 15; to++) {
                    String call = "draftRange(" + field + ", " + from + ", " + to + ")";
                    RuleAnomaly x = withDraft();
                    Check.due(call, from <= to, x.draftRange(field, from, to));
                    if (from > to) {
                        draftIsAsBefore(call, x);
                    }
                }
            }
        }
    }

    private static void draftRangeWrongTwice() {
        int least = Integer.MIN_VALUE;
        int most = Integer.MAX_VALUE;
        int[][] calls = {{-1, -1, 16}, {2, 16, -1}, {2, 5, 4}, {0, 16, -1}, {1, 17, 16}, {0, -1, -2},
            {least, least, least}, {most, most, most}, {0, least, most}, {1, most, least}};
        for (int[] c : calls) {
            String call = "draftRange(" + c[0] + ", " + c[1] + ", " + c[2] + ")";
            RuleAnomaly x = withDraft();
            Check.due(call, false, x.draftRange(c[0], c[1], c[2]));
            draftIsAsBefore(call, x);
        }
    }

    /** Promise 3: "0 only 0, 1 only 1, 2 both. Outside 0..2: refused, answers false." */
    private static void draftSetWhich() {
        for (int which : Edges.outside(0, 2)) {
            RuleAnomaly x = withDraft();
            Check.due("draftSet(" + which + ")", false, x.draftSet(which));
            draftIsAsBefore("draftSet(" + which + ")", x);
        }
        for (int which = 0; which <= 2; which++) {
            RuleAnomaly x = withDraft();
            Check.due("draftSet(" + which + ")", true, x.draftSet(which));
            drafted("draftSet(" + which + ")", x, which == 2 ? 24 : 12, 32 * 6 + 2 * 5 + (which == 1 ? 1 : 0));
        }
    }

    /** Promise 4: "10 rules are there: FULL": the tenth is taken, the eleventh is not, and after a remove there is room. */
    private static void insertWhenFull() {
        RuleAnomaly x = Edges.listOf(9);
        Check.due("nine rules: insert(9, 1)", 10, x.insert(9, 1));
        for (int at = 0; at <= 10; at++) {
            Check.due("ten rules: insert(" + at + ", 0)", FULL, x.insert(at, 0));
            Check.due("ten rules: insert(" + at + ", 1)", FULL, x.insert(at, 1));
        }
        Check.due("ten rules: remove(10)", BAD, x.remove(10));
        Check.due("still ten rules: insert(0, 1)", FULL, x.insert(0, 1));
        Check.due("ten rules: remove(0)", 9, x.remove(0));
        Check.due("nine rules: insert(0, 1)", 10, x.insert(0, 1));
        Check.due("ten rules again: insert(0, 1)", FULL, x.insert(0, 1));
    }

    /** Promise 4: "Tested in this order": a full list answers FULL to wrong numbers too, a list with room does not. */
    private static void insertFullBeforeBad() {
        RuleAnomaly ten = Edges.listOf(10);
        RuleAnomaly nine = Edges.listOf(9);
        for (int at : Edges.outside(0, 10)) {
            Check.due("ten rules: insert(" + at + ", 1)", FULL, ten.insert(at, 1));
            Check.due("ten rules: insert(" + at + ", 2)", FULL, ten.insert(at, 2));
            Check.due("nine rules: insert(" + at + ", 1)", BAD, nine.insert(at, 1));
            Check.due("nine rules: insert(" + at + ", 2)", BAD, nine.insert(at, 2));
        }
        for (int action : Edges.outside(0, 1)) {
            Check.due("ten rules: insert(0, " + action + ")", FULL, ten.insert(0, action));
            Check.due("ten rules: insert(11, " + action + ")", FULL, ten.insert(11, action));
            Check.due("nine rules: insert(0, " + action + ")", BAD, nine.insert(0, action));
            Check.due("nine rules: insert(10, " + action + ")", BAD, nine.insert(10, action));
        }
        Check.due("nine rules: insert(9, 1)", 10, nine.insert(9, 1));
    }

    /** Promise 4: "at outside 0 .. number of rules .. BAD", with every number of rules that leaves room. */
    private static void insertAt() {
        for (int size = 0; size <= 9; size++) {
            String story = size + " rules: ";
            RuleAnomaly x = Edges.listOf(size);
            for (int at : Edges.outside(0, size)) {
                Check.due(story + "insert(" + at + ", 0)", BAD, x.insert(at, 0));
                Check.due(story + "insert(" + at + ", 1)", BAD, x.insert(at, 1));
            }
            Check.due(story + "insert(0, 1)", size + 1, Check.add(x, 0, 1, 15, 15, 15, 15, 1));
            Check.due(story + "decider of the one in front", 0, x.decider(15, 15, 1));
            x = Edges.listOf(size);
            Check.due(story + "insert(" + size + ", 1)", size + 1, Check.add(x, size, 1, 15, 15, 15, 15, 1));
            Check.due(story + "decider of the one at the end", size, x.decider(15, 15, 1));
            for (int k = 0; k < size; k++) {
                Check.due(story + "owned(" + k + ") before the one at the end", 2 * (k + 1), x.owned(k));
            }
        }
    }

    /** Promise 4: "action neither 0 nor 1: BAD". */
    private static void insertAction() {
        for (int size = 0; size <= 9; size++) {
            RuleAnomaly x = Edges.listOf(size);
            for (int action : Edges.outside(0, 1)) {
                Check.due(size + " rules: insert(0, " + action + ")", BAD, x.insert(0, action));
                Check.due(size + " rules: insert(" + size + ", " + action + ")", BAD, x.insert(size, action));
            }
            Check.due(size + " rules: no rule more", BAD, x.owned(size));
        }
        for (int action = 0; action <= 1; action++) {
            RuleAnomaly x = new RuleAnomaly();
            Check.due("insert(0, " + action + ")", 1, x.insert(0, action));
            Check.due("insert(0, " + action + "), save()", 512 * action, x.save());
        }
    }

    /** Promise 4: "the rules from there on move one up .. answers the new number of rules". */
    private static void insertAnswersTheNumberOfRules() {
        RuleAnomaly front = new RuleAnomaly();
        RuleAnomaly end = new RuleAnomaly();
        for (int k = 0; k < 10; k++) {
            Check.due("insert at the front", k + 1, Check.add(front, 0, 1, k, k, 0, 15, 2));
            Check.due("insert at the end", k + 1, Check.add(end, k, 1, k, k, 0, 15, 2));
        }
        for (int k = 0; k < 10; k++) {
            Check.due("ten inserted at the front: decider(" + k + ", 0, 0)", 9 - k, front.decider(k, 0, 0));
            Check.due("ten inserted at the end: decider(" + k + ", 0, 0)", k, end.decider(k, 0, 0));
        }
    }

    /** Promise 4: "The draft stays as it is." */
    private static void insertLeavesTheDraft() {
        RuleAnomaly x = withDraft();
        for (int k = 0; k < 10; k++) {
            x.insert(0, k % 2);
        }
        Check.due("eleventh", FULL, x.insert(0, 1));
        for (int k = 0; k < 10; k++) {
            x.remove(0);
        }
        draftIsAsBefore("ten rules in and out", x);
    }

    /** Promise 5: "i is no rule's number: BAD", with every number of rules. */
    private static void removeNoRule() {
        for (int size = 0; size <= 10; size++) {
            RuleAnomaly x = Edges.listOf(size);
            for (int i : Edges.outside(0, size - 1)) {
                Check.due(size + " rules: remove(" + i + ")", BAD, x.remove(i));
            }
            for (int k = 0; k < size; k++) {
                Check.due(size + " rules, none removed: owned(" + k + ")", 2 * (k + 1), x.owned(k));
            }
        }
    }

    /** Promise 5: "the rules after it move one down .. answers the new number of rules", at both ends. */
    private static void removeFirstAndLast() {
        for (int size = 1; size <= 10; size++) {
            RuleAnomaly x = Edges.listOf(size);
            Check.due(size + " rules: remove(0)", size - 1, x.remove(0));
            for (int k = 0; k < size - 1; k++) {
                Check.due(size + " rules, first removed: owned(" + k + ")", 2 * (k + 2), x.owned(k));
            }
            Check.due(size + " rules, first removed: owned of the last", BAD, x.owned(size - 1));
            x = Edges.listOf(size);
            Check.due(size + " rules: remove of the last", size - 1, x.remove(size - 1));
            for (int k = 0; k < size - 1; k++) {
                Check.due(size + " rules, last removed: owned(" + k + ")", 2 * (k + 1), x.owned(k));
            }
            Check.due(size + " rules: remove of the last again", BAD, x.remove(size - 1));
        }
    }

    private static void removeToNoneAndFillAgain() {
        RuleAnomaly x = Edges.listOf(10);
        for (int left = 9; left >= 0; left--) {
            Check.due("remove(0)", left, x.remove(0));
        }
        Check.due("empty again: remove(0)", BAD, x.remove(0));
        Check.due("empty again: owned(0)", BAD, x.owned(0));
        Check.due("empty again: decider(9, 0, 0)", NONE, x.decider(9, 0, 0));
        Check.due("empty again: insert(1, 1)", BAD, x.insert(1, 1));
        for (int k = 0; k < 10; k++) {
            Check.due("filled again", k + 1, x.insert(k, 1));
        }
        Check.due("filled again: insert(0, 1)", FULL, x.insert(0, 1));
    }

    /** Promise 6: "BAD if s or d is outside 0..15 or p neither 0 nor 1", with no rule, with one, and with ten. */
    private static void deciderOutside() {
        RuleAnomaly one = new RuleAnomaly();
        one.insert(0, 1);
        for (RuleAnomaly x : new RuleAnomaly[] {new RuleAnomaly(), one, Edges.listOf(10)}) {
            for (int odd : Edges.outside(0, 15)) {
                Check.due("decider(" + odd + ", 0, 0)", BAD, x.decider(odd, 0, 0));
                Check.due("decider(" + odd + ", 15, 1)", BAD, x.decider(odd, 15, 1));
                Check.due("decider(0, " + odd + ", 0)", BAD, x.decider(0, odd, 0));
                Check.due("decider(15, " + odd + ", 1)", BAD, x.decider(15, odd, 1));
                Check.due("decider(" + odd + ", " + odd + ", " + odd + ")", BAD, x.decider(odd, odd, odd));
            }
            for (int odd : Edges.outside(0, 1)) {
                Check.due("decider(0, 0, " + odd + ")", BAD, x.decider(0, 0, odd));
                Check.due("decider(15, 15, " + odd + ")", BAD, x.decider(15, 15, odd));
            }
        }
        for (int s : new int[] {0, 1, 14, 15}) {
            for (int d : new int[] {0, 1, 14, 15}) {
                Check.due("decider(" + s + ", " + d + ", 0)", 0, one.decider(s, d, 0));
                Check.due("decider(" + s + ", " + d + ", 1)", 0, one.decider(s, d, 1));
            }
        }
    }

    /** Promise 6: a wrong triple stays BAD where 32 * s + 2 * d + p is the number of a packet, wrapped around or not. */
    private static void deciderWhoseNumberWouldFit() {
        RuleAnomaly x = new RuleAnomaly();
        x.insert(0, 1);
        int[][] triples = {{0, 16, 0}, {1, -1, 0}, {1, -16, 0}, {0, 0, 2}, {0, 1, -1}, {0, 0, 511}, {0, 255, 1}, {-1, 16, 0},
            {16, -1, 0}, {1 << 27, 0, 0}, {-(1 << 27), 3, 1}, {0, Integer.MIN_VALUE, 0}, {3, Integer.MIN_VALUE, 1}};
        for (int[] t : triples) {
            Check.due("decider(" + t[0] + ", " + t[1] + ", " + t[2] + ")", BAD, x.decider(t[0], t[1], t[2]));
        }
    }

    /** Promise 6: "NONE if no rule matches it". */
    private static void deciderNone() {
        RuleAnomaly x = new RuleAnomaly();
        Check.due("no rules: decider(0, 0, 0)", NONE, x.decider(0, 0, 0));
        Check.due("no rules: decider(15, 15, 1)", NONE, x.decider(15, 15, 1));
        Check.add(x, 0, 1, 1, 14, 1, 14, 2);
        for (int v : new int[] {0, 15}) {
            Check.due("inner rule: decider(" + v + ", 7, 0)", NONE, x.decider(v, 7, 0));
            Check.due("inner rule: decider(7, " + v + ", 0)", NONE, x.decider(7, v, 0));
        }
        for (int v : new int[] {1, 14}) {
            Check.due("inner rule: decider(" + v + ", 7, 0)", 0, x.decider(v, 7, 0));
            Check.due("inner rule: decider(7, " + v + ", 0)", 0, x.decider(7, v, 0));
        }
        x = Edges.listOf(10);
        Check.due("ten rules: decider(9, 9, 1)", 9, x.decider(9, 9, 1));
        Check.due("ten rules: decider(9, 10, 1)", NONE, x.decider(9, 10, 1));
        Check.due("ten rules: decider(10, 0, 0)", NONE, x.decider(10, 0, 0));
    }

    /** Promises 7, 8 and 9: "BAD if i is no rule's number", with every number of rules. */
    private static void ruleNumbersOutside() {
        for (int size = 0; size <= 10; size++) {
            RuleAnomaly x = Edges.listOf(size);
            String story = size + " rules: ";
            for (int i : Edges.outside(0, size - 1)) {
                Check.due(story + "owned(" + i + ")", BAD, x.owned(i));
                Check.due(story + "firstOwned(" + i + ")", BAD, x.firstOwned(i));
                Check.due(story + "fault(" + i + ")", BAD, x.fault(i));
            }
            if (size > 0) {
                int last = size - 1;
                Check.due(story + "owned(0)", 2, x.owned(0));
                Check.due(story + "firstOwned(0)", 0, x.firstOwned(0));
                Check.due(story + "fault(0)", RuleAnomaly.REDUNDANT, x.fault(0));
                Check.due(story + "owned(" + last + ")", 2 * size, x.owned(last));
                Check.due(story + "firstOwned(" + last + ")", 32 * last, x.firstOwned(last));
                int want = last % 2 == 1 ? RuleAnomaly.CLEAN : RuleAnomaly.REDUNDANT;
                Check.due(story + "fault(" + last + ")", want, x.fault(last));
                // A number that was a rule's number is one no longer.
                x.remove(last);
                Check.due(story + "owned(" + last + ") when removed", BAD, x.owned(last));
                Check.due(story + "firstOwned(" + last + ") when removed", BAD, x.firstOwned(last));
                Check.due(story + "fault(" + last + ") when removed", BAD, x.fault(last));
            }
        }
    }

    /** Promise 7: from none to all packets. */
    private static void ownedLeastAndMost() {
        RuleAnomaly x = new RuleAnomaly();
        x.insert(0, 0);
        Check.due("all: owned(0)", 512, x.owned(0));
        x.insert(1, 1);
        Check.due("the same behind it: owned(1)", 0, x.owned(1));
        Check.add(x, 0, 1, 0, 0, 0, 0, 0);
        Check.due("one in front: owned(0)", 1, x.owned(0));
        Check.due("all but one: owned(1)", 511, x.owned(1));
        Check.due("behind both: owned(2)", 0, x.owned(2));
    }

    /** Promise 8: "The smallest number of a packet that rule i owns; NONE if it owns none". */
    private static void firstOwnedEnds() {
        RuleAnomaly x = new RuleAnomaly();
        x.insert(0, 1);
        x.insert(1, 0);
        Check.due("all: firstOwned(0)", 0, x.firstOwned(0));
        Check.due("behind all: firstOwned(1)", NONE, x.firstOwned(1));
        Check.due("no rule: firstOwned(2)", BAD, x.firstOwned(2));
        Check.add(x, 0, 1, 0, 0, 0, 0, 0);
        Check.due("packet 0 taken: firstOwned(1)", 1, x.firstOwned(1));
        Check.add(x, 0, 1, 0, 0, 0, 15, 2);
        Check.due("s = 0 taken: firstOwned(2)", 32, x.firstOwned(2));
        Check.add(x, 0, 1, 0, 14, 0, 15, 2);
        Check.add(x, 0, 1, 15, 15, 0, 14, 2);
        Check.add(x, 0, 1, 15, 15, 15, 15, 0);
        Check.due("all but the last taken: firstOwned(5)", 511, x.firstOwned(5));
        Check.due("all but the last taken: owned(5)", 1, x.owned(5));
        Check.add(x, 0, 1, 15, 15, 15, 15, 1);
        Check.due("all taken: firstOwned(6)", NONE, x.firstOwned(6));
        Check.due("all taken: owned(6)", 0, x.owned(6));
    }

    /** Promise 10: from none to all packets, with no rule and with ten, and saving the same again. */
    private static void saveLeastAndMost() {
        RuleAnomaly x = new RuleAnomaly();
        Check.due("no rule: save()", 0, x.save());
        x.insert(0, 1);
        Check.due("allow all: save()", 512, x.save());
        Check.due("allow all, again: save()", 512, x.save());
        Check.add(x, 0, 0, 15, 15, 15, 15, 1);
        Check.due("all but the last: save()", 511, x.save());
        Check.add(x, 0, 0, 0, 0, 0, 0, 0);
        Check.due("all but the first and the last: save()", 510, x.save());
        x.draftRange(0, 0, 15);
        x.draftRange(1, 0, 15);
        x.draftSet(2);
        x.insert(0, 0);
        Check.due("deny all: save()", 0, x.save());
        x = new RuleAnomaly();
        for (int k = 0; k < 10; k++) {
            Check.add(x, k, 1, k, k, 0, 15, 2);
        }
        Check.due("ten rules: save()", 320, x.save());
        Check.due("ten rules saved: changed()", 0, x.changed());
        x.remove(9);
        Check.due("the tenth removed: changed()", 32, x.changed());
        Check.due("the tenth removed: firstChanged()", 32 * 9, x.firstChanged());
    }

    /** Promise 11: from none to all packets. */
    private static void changedLeastAndMost() {
        RuleAnomaly x = new RuleAnomaly();
        Check.due("no rule: changed()", 0, x.changed());
        x.insert(0, 1);
        Check.due("all allowed: changed()", 512, x.changed());
        x.save();
        Check.due("all allowed, saved: changed()", 0, x.changed());
        Check.add(x, 0, 0, 15, 15, 15, 15, 1);
        Check.due("the last denied: changed()", 1, x.changed());
        x.remove(1);
        Check.due("all allowed were saved, one deny left: changed()", 512, x.changed());
        x.remove(0);
        Check.due("all allowed were saved, none left: changed()", 512, x.changed());
    }

    /** Promise 12: "The smallest number of such a packet; NONE if there is none." */
    private static void firstChangedEnds() {
        for (int action = 0; action <= 1; action++) {
            String story = "changed to " + action + ": ";
            RuleAnomaly x = new RuleAnomaly();
            x.insert(0, 1 - action);
            x.save();
            Check.due(story + "nothing yet", NONE, x.firstChanged());
            Check.add(x, 0, action, 15, 15, 15, 15, 1);
            Check.due(story + "the last", 511, x.firstChanged());
            Check.add(x, 0, action, 0, 0, 0, 0, 1);
            Check.due(story + "the second", 1, x.firstChanged());
            Check.add(x, 0, action, 0, 0, 0, 0, 0);
            Check.due(story + "the first", 0, x.firstChanged());
            Check.due(story + "three of them", 3, x.changed());
            x.save();
            Check.due(story + "saved", NONE, x.firstChanged());
        }
    }

    /** "An object is used for at most 512 calls": the last of them is answered like the first. */
    private static void lastCall() {
        RuleAnomaly x = new RuleAnomaly();
        for (int k = 0; k < 254; k++) {
            Check.due("insert, call " + (2 * k + 1), 1, x.insert(0, 1));
            Check.due("remove, call " + (2 * k + 2), 0, x.remove(0));
        }
        Check.due("call 509", 1, x.insert(0, 1));
        Check.due("call 510", 512, x.save());
        Check.due("call 511", 0, x.remove(0));
        Check.due("call 512", 512, x.changed());
    }
}
