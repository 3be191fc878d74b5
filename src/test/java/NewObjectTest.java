/** Promise 1: a new object. */
public final class NewObjectTest {
    public static void main(String[] args) {
        noRules();
        savedIsZero();
        draftMatchesAll();
        objectsAreSeparate();
        Check.finish();
    }

    private static void noRules() {
        RuleAnomaly x = new RuleAnomaly();
        for (int packet = 0; packet < 512; packet++) {
            int got = x.decider(packet / 32, packet / 2 % 16, packet % 2);
            Check.due("new: decider of " + packet, RuleAnomaly.NONE, got);
        }
        x = new RuleAnomaly();
        Check.due("new: remove(0)", RuleAnomaly.BAD, x.remove(0));
        Check.due("new: owned(0)", RuleAnomaly.BAD, x.owned(0));
        Check.due("new: insert(1, 1)", RuleAnomaly.BAD, x.insert(1, 1));
        Check.due("new: insert(0, 1)", 1, x.insert(0, 1));
    }

    private static void savedIsZero() {
        RuleAnomaly x = new RuleAnomaly();
        Check.due("new: changed()", 0, x.changed());
        Check.due("new: firstChanged()", RuleAnomaly.NONE, x.firstChanged());
        Check.due("new: save()", 0, x.save());
        x = new RuleAnomaly();
        x.insert(0, 1);
        Check.due("new, then all allowed: changed()", 512, x.changed());
        Check.due("new, then all allowed: firstChanged()", 0, x.firstChanged());
    }

    private static void draftMatchesAll() {
        RuleAnomaly x = new RuleAnomaly();
        x.insert(0, 0);
        Check.due("first draft: owned(0)", 512, x.owned(0));
    }

    private static void objectsAreSeparate() {
        RuleAnomaly x = new RuleAnomaly();
        x.draftRange(0, 3, 4);
        x.insert(0, 1);
        x.save();
        RuleAnomaly y = new RuleAnomaly();
        Check.due("second object: owned(0)", RuleAnomaly.BAD, y.owned(0));
        Check.due("second object: changed()", 0, y.changed());
        y.insert(0, 1);
        Check.due("second object: owned(0) of its draft", 512, y.owned(0));
        Check.due("first object: owned(0)", 64, x.owned(0));
    }
}
