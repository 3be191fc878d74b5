/** The example of README.md, call by call. */
public final class ReadmeTest {
    public static void main(String[] args) {
        RuleAnomaly list = new RuleAnomaly();
        list.draftRange(0, 4, 7);
        list.draftRange(1, 2, 9);
        list.draftSet(1);
        Check.due("insert(0, 0)", 1, list.insert(0, 0));
        list.draftRange(0, 0, 15);
        list.draftRange(1, 0, 15);
        list.draftSet(2);
        Check.due("insert(1, 1)", 2, list.insert(1, 1));
        Check.due("decider(5, 3, 1)", 0, list.decider(5, 3, 1));
        Check.due("owned(1)", 480, list.owned(1));
        Check.due("firstOwned(0)", 133, list.firstOwned(0));
        Check.due("fault(1)", RuleAnomaly.GENERAL, list.fault(1));
        Check.due("save()", 480, list.save());
        Check.due("remove(0)", 1, list.remove(0));
        Check.due("changed()", 32, list.changed());
        Check.due("firstChanged()", 133, list.firstChanged());
        Check.finish();
    }
}
