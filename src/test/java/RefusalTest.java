import java.util.function.Consumer;

/** Promise 13: a refused call changes nothing, and BAD is tested before NONE. */
public final class RefusalTest {
    public static void main(String[] args) {
        refusedCallsChangeNothing();
        questionsChangeNothing();
        badBeforeNone();
        Check.finish();
    }

    private static RuleAnomaly example(int size) {
        RuleAnomaly x = new RuleAnomaly();
        for (int k = 0; k < size; k++) {
            Check.add(x, k, (k + 1) % 2, k, k + 3, 10 - k, 12 - k / 2, k % 3);
            if (k == size / 2) {
                x.save();
            }
        }
        x.draftRange(0, 1, 9);
        x.draftRange(1, 3, 11);
        x.draftSet(1);
        return x;
    }

    /** All that an object answers, the draft last, which is read from a rule made of it. */
    private static String state(RuleAnomaly x, int size) {
        StringBuilder text = new StringBuilder();
        for (int i = 0; i <= size; i++) {
            text.append(x.owned(i)).append(' ').append(x.firstOwned(i)).append(' ').append(x.fault(i)).append(", ");
        }
        text.append(x.changed()).append(' ').append(x.firstChanged()).append(", ");
        if (size == 10) {
            text.append(x.remove(0));
        }
        text.append(x.insert(0, 1)).append(' ').append(x.owned(0)).append(' ').append(x.firstOwned(0)).append(' ');
        text.append(x.changed()).append(' ').append(x.save());
        return text.toString();
    }

    private static void same(String call, Consumer<RuleAnomaly> made) {
        for (int size : new int[] {0, 1, 4, 9, 10}) {
            RuleAnomaly x = example(size);
            made.accept(x);
            String want = state(example(size), size);
            String got = state(x, size);
            if (!got.equals(want)) {
                Check.due(size + " rules, " + call + " changed " + want + " to " + got + ": same", true, false);
            }
        }
    }

    private static void refusedCallsChangeNothing() {
        same("draftRange(-1, 0, 1)", x -> x.draftRange(-1, 0, 1));
        same("draftRange(2, 0, 1)", x -> x.draftRange(2, 0, 1));
        same("draftRange(0, -1, 1)", x -> x.draftRange(0, -1, 1));
        same("draftRange(0, 0, 16)", x -> x.draftRange(0, 0, 16));
        same("draftRange(1, 2, 16)", x -> x.draftRange(1, 2, 16));
        same("draftRange(0, 5, 4)", x -> x.draftRange(0, 5, 4));
        same("draftRange(1, 5, 4)", x -> x.draftRange(1, 5, 4));
        same("draftSet(-1)", x -> x.draftSet(-1));
        same("draftSet(3)", x -> x.draftSet(3));
        same("insert(-1, 1)", x -> x.insert(-1, 1));
        same("insert(11, 1)", x -> x.insert(11, 1));
        same("insert(0, 2)", x -> x.insert(0, 2));
        same("insert(0, -1)", x -> x.insert(0, -1));
        same("remove(-1)", x -> x.remove(-1));
        same("remove(10)", x -> x.remove(10));
        RuleAnomaly full = example(10);
        Check.due("insert(0, 1) with 10 rules", RuleAnomaly.FULL, full.insert(0, 1));
        Check.due("insert(10, 1) with 10 rules", RuleAnomaly.FULL, full.insert(10, 1));
        Check.due("the full list is the same", true, state(full, 10).equals(state(example(10), 10)));
    }

    private static void questionsChangeNothing() {
        same("decider(3, 8, 0)", x -> x.decider(3, 8, 0));
        same("decider(16, 8, 0)", x -> x.decider(16, 8, 0));
        same("owned(0)", x -> x.owned(0));
        same("owned(-1)", x -> x.owned(-1));
        same("firstOwned(0)", x -> x.firstOwned(0));
        same("firstOwned(-1)", x -> x.firstOwned(-1));
        same("fault(0)", x -> x.fault(0));
        same("fault(-1)", x -> x.fault(-1));
        same("changed()", x -> x.changed());
        same("firstChanged()", x -> x.firstChanged());
    }

    private static void badBeforeNone() {
        RuleAnomaly x = new RuleAnomaly();
        Check.due("empty: decider(16, 0, 0)", RuleAnomaly.BAD, x.decider(16, 0, 0));
        Check.due("empty: decider(0, -1, 0)", RuleAnomaly.BAD, x.decider(0, -1, 0));
        Check.due("empty: decider(0, 0, 2)", RuleAnomaly.BAD, x.decider(0, 0, 2));
        Check.due("empty: decider(0, 0, 0)", RuleAnomaly.NONE, x.decider(0, 0, 0));
        Check.due("empty: firstOwned(0)", RuleAnomaly.BAD, x.firstOwned(0));
        x.insert(0, 1);
        x.insert(1, 1);
        Check.due("firstOwned(1)", RuleAnomaly.NONE, x.firstOwned(1));
        Check.due("firstOwned(2)", RuleAnomaly.BAD, x.firstOwned(2));
    }
}
