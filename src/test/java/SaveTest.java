/** Promises 10, 11 and 12: save, changed and firstChanged. */
public final class SaveTest {
    public static void main(String[] args) {
        countsAllowed();
        changesBothWays();
        savedAgain();
        decisionsNotDeciders();
        Check.finish();
    }

    private static void expect(String story, RuleAnomaly x, int changed, int first) {
        Check.due(story + ": changed()", changed, x.changed());
        Check.due(story + ": firstChanged()", first, x.firstChanged());
        Check.due(story + ": changed() again", changed, x.changed());
    }

    private static void countsAllowed() {
        RuleAnomaly x = new RuleAnomaly();
        Check.due("empty: save()", 0, x.save());
        Check.add(x, 0, 1, 2, 3, 4, 6, 1);
        Check.due("allow six: save()", 6, x.save());
        Check.add(x, 0, 0, 3, 3, 6, 6, 2);
        Check.due("deny one of them: save()", 5, x.save());
        Check.add(x, 2, 1, 0, 15, 0, 15, 2);
        Check.due("allow the rest: save()", 510, x.save());
        Check.due("the same again: save()", 510, x.save());
    }

    private static void changesBothWays() {
        RuleAnomaly x = new RuleAnomaly();
        Check.add(x, 0, 1, 2, 3, 4, 6, 1);
        expect("allow not saved", x, 6, 32 * 2 + 2 * 4 + 1);
        x.save();
        expect("allow saved", x, 0, RuleAnomaly.NONE);
        Check.add(x, 0, 0, 3, 3, 4, 5, 2);
        expect("two allowed are denied", x, 2, 32 * 3 + 2 * 4 + 1);
        Check.add(x, 2, 1, 1, 1, 15, 15, 0);
        expect("and one denied is allowed", x, 3, 32 + 2 * 15);
        x.remove(2);
        x.remove(0);
        expect("back to the saved list", x, 0, RuleAnomaly.NONE);
        x.remove(0);
        expect("empty list", x, 6, 32 * 2 + 2 * 4 + 1);
    }

    private static void savedAgain() {
        RuleAnomaly x = new RuleAnomaly();
        x.insert(0, 1);
        x.save();
        x.remove(0);
        expect("all allowed, then none", x, 512, 0);
        Check.due("none: save()", 0, x.save());
        expect("none saved", x, 0, RuleAnomaly.NONE);
        Check.add(x, 0, 1, 15, 15, 15, 15, 1);
        expect("the last packet", x, 1, 511);
    }

    private static void decisionsNotDeciders() {
        RuleAnomaly x = new RuleAnomaly();
        x.insert(0, 1);
        x.save();
        x.insert(0, 1);
        Check.add(x, 0, 1, 3, 4, 3, 4, 0);
        expect("other deciders, same decisions", x, 0, RuleAnomaly.NONE);
        x = new RuleAnomaly();
        x.insert(0, 0);
        expect("denied instead of not matched", x, 0, RuleAnomaly.NONE);
    }
}
