import java.util.ArrayList;
import java.util.List;
import java.util.function.Supplier;
import java.util.function.ToIntFunction;

/** Promise 13: a refused call changes nothing, with no rule, one, nine and ten; and BAD is tested before NONE. */
public final class RefusalBoundaryTest {
    private static final int BAD = RuleAnomaly.BAD;
    private static final int FULL = RuleAnomaly.FULL;
    private static final int REFUSED = 0;

    private record Call(String text, int answer, ToIntFunction<RuleAnomaly> made) {
    }

    public static void main(String[] args) {
        for (int size : new int[] {0, 1, 9, 10}) {
            for (Call call : refused(size)) {
                changesNothing(size, call);
            }
            changesNothingAllTogether(size);
        }
        allowedCallsChangeTheirOwnPart();
        badBeforeNoneInDecider();
        badBeforeNoneInFirstOwned();
        Check.finish();
    }

    /** Rules that overlap, a saved decision that is not the present one, and a draft unlike every rule. */
    private static RuleAnomaly example(int size) {
        RuleAnomaly x = new RuleAnomaly();
        Check.add(x, 0, 1, 3, 12, 2, 9, 0);
        x.save();
        x.remove(0);
        for (int k = 0; k < size; k++) {
            Check.add(x, k, (k + 1) % 2, k, k + 4, 10 - k, 13 - k / 2, (k + 2) % 3);
        }
        x.draftRange(0, 1, 9);
        x.draftRange(1, 3, 11);
        x.draftSet(1);
        return x;
    }

    private static List<Call> refused(int size) {
        List<Call> calls = new ArrayList<>();
        for (int odd : new int[] {Integer.MIN_VALUE, -1, 16, Integer.MAX_VALUE}) {
            addDraftRange(calls, odd, 0, 15);
            for (int field = 0; field <= 1; field++) {
                addDraftRange(calls, field, odd, 4);
                addDraftRange(calls, field, 4, odd);
                addDraftRange(calls, field, odd, odd);
            }
            calls.add(new Call("decider(" + odd + ", 0, 0)", BAD, x -> x.decider(odd, 0, 0)));
            calls.add(new Call("decider(0, " + odd + ", 0)", BAD, x -> x.decider(0, odd, 0)));
            calls.add(new Call("decider(0, 0, " + odd + ")", BAD, x -> x.decider(0, 0, odd)));
        }
        addDraftRange(calls, 2, 0, 15);
        addDraftRange(calls, 0, 5, 4);
        addDraftRange(calls, 1, 15, 0);
        for (int odd : new int[] {Integer.MIN_VALUE, -1, 3, Integer.MAX_VALUE}) {
            calls.add(new Call("draftSet(" + odd + ")", REFUSED, x -> x.draftSet(odd) ? 1 : 0));
        }
        addInserts(calls, size);
        for (int i : new int[] {Integer.MIN_VALUE, -1, size, size + 1, Integer.MAX_VALUE}) {
            calls.add(new Call("remove(" + i + ")", BAD, x -> x.remove(i)));
            calls.add(new Call("owned(" + i + ")", BAD, x -> x.owned(i)));
            calls.add(new Call("firstOwned(" + i + ")", BAD, x -> x.firstOwned(i)));
            calls.add(new Call("fault(" + i + ")", BAD, x -> x.fault(i)));
        }
        return calls;
    }

    private static void addDraftRange(List<Call> calls, int field, int from, int to) {
        String text = "draftRange(" + field + ", " + from + ", " + to + ")";
        calls.add(new Call(text, REFUSED, x -> x.draftRange(field, from, to) ? 1 : 0));
    }

    private static void addInserts(List<Call> calls, int size) {
        int answer = size == 10 ? FULL : BAD;
        for (int at : new int[] {Integer.MIN_VALUE, -1, size + 1, Integer.MAX_VALUE}) {
            calls.add(new Call("insert(" + at + ", 1)", answer, x -> x.insert(at, 1)));
        }
        for (int action : new int[] {Integer.MIN_VALUE, -1, 2, Integer.MAX_VALUE}) {
            calls.add(new Call("insert(0, " + action + ")", answer, x -> x.insert(0, action)));
            calls.add(new Call("insert(" + size + ", " + action + ")", answer, x -> x.insert(size, action)));
        }
        if (size == 10) {
            for (int at = 0; at <= 10; at++) {
                int place = at;
                calls.add(new Call("insert(" + at + ", 1)", FULL, x -> x.insert(place, 1)));
            }
        }
    }

    private static Supplier<RuleAnomaly> after(int size, Call call) {
        return () -> {
            RuleAnomaly x = example(size);
            call.made().applyAsInt(x);
            return x;
        };
    }

    /** "A call that is refused .. changes nothing." */
    private static void changesNothing(int size, Call call) {
        String story = size + " rules: " + call.text();
        Check.due(story, call.answer(), call.made().applyAsInt(example(size)));
        State before = State.of(() -> example(size));
        Check.due(story + " changes nothing", true, before.equals(State.of(after(size, call))));
    }

    /** The refused calls one after the other, each answered as if it were the first. */
    private static void changesNothingAllTogether(int size) {
        Supplier<RuleAnomaly> make = () -> {
            RuleAnomaly x = example(size);
            for (Call call : refused(size)) {
                Check.due(size + " rules, in a row: " + call.text(), call.answer(), call.made().applyAsInt(x));
            }
            return x;
        };
        State before = State.of(() -> example(size));
        Check.due(size + " rules: refused calls in a row change nothing", true, before.equals(State.of(make)));
    }

    /** If these did not show, a test that nothing changes would show nothing. */
    private static void allowedCallsChangeTheirOwnPart() {
        for (int size : new int[] {1, 9}) {
            part(size, new Call("draftRange(0, 1, 8)", 1, x -> x.draftRange(0, 1, 8) ? 1 : 0), false, true, false);
            part(size, new Call("draftRange(1, 4, 11)", 1, x -> x.draftRange(1, 4, 11) ? 1 : 0), false, true, false);
            part(size, new Call("draftSet(2)", 1, x -> x.draftSet(2) ? 1 : 0), false, true, false);
            part(size, new Call("insert(0, 1)", size + 1, x -> x.insert(0, 1)), true, false, false);
            part(size, new Call("insert(size, 0)", size + 1, x -> x.insert(size, 0)), true, false, false);
            part(size, new Call("remove(0)", size - 1, x -> x.remove(0)), true, false, false);
            part(size, new Call("remove(size - 1)", size - 1, x -> x.remove(size - 1)), true, false, false);
            int allowed = example(size).save();
            part(size, new Call("save()", allowed, x -> x.save()), false, false, true);
        }
    }

    private static void part(int size, Call call, boolean list, boolean draft, boolean saved) {
        String story = size + " rules: " + call.text();
        Check.due(story, call.answer(), call.made().applyAsInt(example(size)));
        State before = State.of(() -> example(size));
        State then = State.of(after(size, call));
        Check.due(story + " changes the list", list, !before.list().equals(then.list()));
        Check.due(story + " changes the draft", draft, !before.draft().equals(then.draft()));
        Check.due(story + " changes what is saved", saved, !before.saved().equals(then.saved()));
    }

    /** "decider .. : BAD is tested before NONE." No rule matches anything here, so only the order can answer BAD. */
    private static void badBeforeNoneInDecider() {
        RuleAnomaly x = new RuleAnomaly();
        for (int odd : Edges.outside(0, 15)) {
            Check.due("no rule: decider(" + odd + ", 15, 1)", BAD, x.decider(odd, 15, 1));
            Check.due("no rule: decider(15, " + odd + ", 1)", BAD, x.decider(15, odd, 1));
        }
        for (int odd : Edges.outside(0, 1)) {
            Check.due("no rule: decider(15, 15, " + odd + ")", BAD, x.decider(15, 15, odd));
        }
        Check.due("no rule: decider(15, 15, 1)", RuleAnomaly.NONE, x.decider(15, 15, 1));
    }

    /** "firstOwned: BAD is tested before NONE." What is no rule owns none either. */
    private static void badBeforeNoneInFirstOwned() {
        RuleAnomaly x = new RuleAnomaly();
        Check.due("no rule: firstOwned(0)", BAD, x.firstOwned(0));
        for (int size = 1; size <= 10; size++) {
            x.insert(size - 1, 1);
            Check.due(size + " rules: firstOwned(" + size + ")", BAD, x.firstOwned(size));
            Check.due(size + " rules: firstOwned(-1)", BAD, x.firstOwned(-1));
            int want = size == 1 ? 0 : RuleAnomaly.NONE;
            Check.due(size + " rules: firstOwned of the last", want, x.firstOwned(size - 1));
        }
        x.remove(9);
        Check.due("the tenth removed: firstOwned(9)", BAD, x.firstOwned(9));
    }
}
