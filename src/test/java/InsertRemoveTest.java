/** Promises 4 and 5: insert and remove. */
public final class InsertRemoveTest {
    private static final int[] ODD = {Integer.MIN_VALUE, -2, -1, 2, 3, Integer.MAX_VALUE};

    public static void main(String[] args) {
        for (int size = 0; size < 10; size++) {
            for (int at = 0; at <= size; at++) {
                insertedAt(size, at);
            }
        }
        for (int size = 1; size <= 10; size++) {
            for (int i = 0; i < size; i++) {
                removedAt(size, i);
            }
        }
        draftStays();
        actionIsKept();
        wrongInserts();
        fullComesFirst();
        wrongRemoves();
        Check.finish();
    }

    /** Rules that do not overlap: rule k matches s = k alone, with k + 1 values of d. */
    private static RuleAnomaly listOf(int size) {
        RuleAnomaly x = new RuleAnomaly();
        for (int k = 0; k < size; k++) {
            Check.due("insert at the end", k + 1, Check.add(x, k, k % 2, k, k, 0, k, 0));
        }
        return x;
    }

    private static void insertedAt(int size, int at) {
        RuleAnomaly x = listOf(size);
        String call = "insert(" + at + ", 1) with " + size + " rules";
        Check.due(call, size + 1, Check.add(x, at, 1, 15, 15, 0, 11, 1));
        for (int k = 0; k < size; k++) {
            int place = k < at ? k : k + 1;
            Check.due(call + ": decider of old rule " + k, place, x.decider(k, k, 0));
            Check.due(call + ": owned of old rule " + k, k + 1, x.owned(place));
        }
        Check.due(call + ": decider of the new rule", at, x.decider(15, 11, 1));
        Check.due(call + ": owned of the new rule", 12, x.owned(at));
        int allowed = 12;
        for (int k = 1; k < size; k += 2) {
            allowed += k + 1;
        }
        Check.due(call + ": save()", allowed, x.save());
    }

    private static void removedAt(int size, int i) {
        RuleAnomaly x = listOf(size);
        String call = "remove(" + i + ") with " + size + " rules";
        Check.due(call, size - 1, x.remove(i));
        int allowed = 0;
        for (int k = 0; k < size; k++) {
            int place = k < i ? k : k - 1;
            Check.due(call + ": decider of old rule " + k, k == i ? RuleAnomaly.NONE : place, x.decider(k, 0, 0));
            if (k != i) {
                Check.due(call + ": owned of old rule " + k, k + 1, x.owned(place));
                allowed += k % 2 == 1 ? k + 1 : 0;
            }
        }
        Check.due(call + ": owned of the place left", RuleAnomaly.BAD, x.owned(size - 1));
        Check.due(call + ": save()", allowed, x.save());
    }

    private static void draftStays() {
        RuleAnomaly x = new RuleAnomaly();
        Check.add(x, 0, 1, 2, 4, 5, 5, 1);
        x.insert(0, 0);
        x.remove(1);
        Check.due("same draft again: owned(0)", 3, x.owned(0));
        x.remove(0);
        x.insert(0, 1);
        Check.due("same draft after an empty list: firstOwned(0)", 32 * 2 + 2 * 5 + 1, x.firstOwned(0));
        // A new range of s leaves the draft's other parts as they were before the insert.
        x.draftRange(0, 0, 15);
        x.insert(0, 1);
        Check.due("draft with a new range of s: owned(0)", 16, x.owned(0));
    }

    private static void actionIsKept() {
        RuleAnomaly x = new RuleAnomaly();
        x.insert(0, 0);
        Check.due("deny all: save()", 0, x.save());
        x.insert(0, 1);
        Check.due("allow all in front: save()", 512, x.save());
        x.insert(2, 0);
        Check.due("deny all behind: save()", 512, x.save());
        x.remove(0);
        Check.due("allow all taken out: save()", 0, x.save());
    }

    private static void wrongInserts() {
        RuleAnomaly x = listOf(3);
        x.save();
        for (int odd : ODD) {
            Check.due("insert(0, " + odd + ")", RuleAnomaly.BAD, x.insert(0, odd));
            Check.due("insert(3, " + odd + ")", RuleAnomaly.BAD, x.insert(3, odd));
        }
        for (int at : new int[] {Integer.MIN_VALUE, -1, 4, 5, 9, 10, 11, Integer.MAX_VALUE}) {
            Check.due("insert(" + at + ", 1)", RuleAnomaly.BAD, x.insert(at, 1));
            Check.due("insert(" + at + ", 7)", RuleAnomaly.BAD, x.insert(at, 7));
        }
        Check.due("changed() after wrong inserts", 0, x.changed());
        Check.due("owned(2) after wrong inserts", 3, x.owned(2));
        Check.due("owned(3) after wrong inserts", RuleAnomaly.BAD, x.owned(3));
    }

    private static void fullComesFirst() {
        RuleAnomaly x = listOf(10);
        x.save();
        Check.due("full: insert(0, 1)", RuleAnomaly.FULL, x.insert(0, 1));
        Check.due("full: insert(10, 0)", RuleAnomaly.FULL, x.insert(10, 0));
        Check.due("full: insert(-1, 1)", RuleAnomaly.FULL, x.insert(-1, 1));
        Check.due("full: insert(11, 1)", RuleAnomaly.FULL, x.insert(11, 1));
        Check.due("full: insert(0, 2)", RuleAnomaly.FULL, x.insert(0, 2));
        Check.due("full: changed()", 0, x.changed());
        for (int k = 0; k < 10; k++) {
            Check.due("full: owned(" + k + ")", k + 1, x.owned(k));
        }
        Check.due("full: remove(9)", 9, x.remove(9));
        Check.due("no longer full: insert(10, 1)", RuleAnomaly.BAD, x.insert(10, 1));
        Check.due("no longer full: insert(9, 1)", 10, x.insert(9, 1));
        Check.due("full again: insert(9, 1)", RuleAnomaly.FULL, x.insert(9, 1));
    }

    private static void wrongRemoves() {
        for (int size = 0; size <= 10; size++) {
            RuleAnomaly x = listOf(size);
            x.save();
            for (int i : new int[] {Integer.MIN_VALUE, -1, size, size + 1, 10, 11, Integer.MAX_VALUE}) {
                Check.due("remove(" + i + ") with " + size + " rules", RuleAnomaly.BAD, x.remove(i));
            }
            Check.due("changed() after wrong removes", 0, x.changed());
            for (int k = 0; k < size; k++) {
                Check.due("owned(" + k + ") after wrong removes", k + 1, x.owned(k));
            }
        }
    }
}
