/** Promises 6, 7 and 8: decider, owned and firstOwned. */
public final class OwnerTest {
    public static void main(String[] args) {
        everyPacket();
        wrongPackets();
        wrongRules();
        ownsNone();
        lastPacket();
        Check.finish();
    }

    /** Rule 0: s 2..5, d 3..6, p 1. Rule 1: s 4..8, d 0..15, p both. Rule 2: s 0..15, d 6..6, p 0. */
    private static RuleAnomaly threeRules() {
        RuleAnomaly x = new RuleAnomaly();
        Check.add(x, 0, 1, 2, 5, 3, 6, 1);
        Check.add(x, 1, 0, 4, 8, 0, 15, 2);
        Check.add(x, 2, 1, 0, 15, 6, 6, 0);
        return x;
    }

    private static int ownerOf(int s, int d, int p) {
        if (s >= 2 && s <= 5 && d >= 3 && d <= 6 && p == 1) {
            return 0;
        }
        if (s >= 4 && s <= 8) {
            return 1;
        }
        return d == 6 && p == 0 ? 2 : RuleAnomaly.NONE;
    }

    private static void everyPacket() {
        RuleAnomaly x = threeRules();
        RuleAnomaly y = threeRules();
        for (int s = 0; s <= 15; s++) {
            // Half the packets each, to stay below 512 calls on an object.
            RuleAnomaly used = s < 8 ? x : y;
            for (int d = 0; d <= 15; d++) {
                Check.due("decider(" + s + ", " + d + ", 0)", ownerOf(s, d, 0), used.decider(s, d, 0));
                Check.due("decider(" + s + ", " + d + ", 1)", ownerOf(s, d, 1), used.decider(s, d, 1));
            }
        }
        Check.due("owned(0)", 16, x.owned(0));
        Check.due("owned(1)", 5 * 32 - 8, x.owned(1));
        Check.due("owned(2)", 11, x.owned(2));
        Check.due("firstOwned(0)", 32 * 2 + 2 * 3 + 1, x.firstOwned(0));
        Check.due("firstOwned(1)", 32 * 4, x.firstOwned(1));
        Check.due("firstOwned(2)", 2 * 6, x.firstOwned(2));
    }

    private static void wrongPackets() {
        RuleAnomaly empty = new RuleAnomaly();
        RuleAnomaly full = new RuleAnomaly();
        full.insert(0, 1);
        for (RuleAnomaly x : new RuleAnomaly[] {empty, full}) {
            for (int odd : new int[] {Integer.MIN_VALUE, -1, 16, 32, Integer.MAX_VALUE}) {
                Check.due("decider(" + odd + ", 0, 0)", RuleAnomaly.BAD, x.decider(odd, 0, 0));
                Check.due("decider(0, " + odd + ", 0)", RuleAnomaly.BAD, x.decider(0, odd, 0));
                Check.due("decider(0, 0, " + odd + ")", RuleAnomaly.BAD, x.decider(0, 0, odd));
            }
            Check.due("decider(0, 0, 2)", RuleAnomaly.BAD, x.decider(0, 0, 2));
        }
        Check.due("decider(15, 15, 1) of none", RuleAnomaly.NONE, empty.decider(15, 15, 1));
        Check.due("decider(15, 15, 1) of all", 0, full.decider(15, 15, 1));
    }

    private static void wrongRules() {
        RuleAnomaly x = threeRules();
        for (int i : new int[] {Integer.MIN_VALUE, -3, -1, 3, 9, 10, Integer.MAX_VALUE}) {
            Check.due("owned(" + i + ")", RuleAnomaly.BAD, x.owned(i));
            Check.due("firstOwned(" + i + ")", RuleAnomaly.BAD, x.firstOwned(i));
        }
        x.remove(2);
        Check.due("owned(2) after remove", RuleAnomaly.BAD, x.owned(2));
        Check.due("firstOwned(2) after remove", RuleAnomaly.BAD, x.firstOwned(2));
        // -3 is NONE: no packet has a decider here, but -3 is still no rule's number.
        RuleAnomaly empty = new RuleAnomaly();
        Check.due("owned(-3) of an empty list", RuleAnomaly.BAD, empty.owned(-3));
        Check.due("firstOwned(-3) of an empty list", RuleAnomaly.BAD, empty.firstOwned(-3));
    }

    private static void ownsNone() {
        RuleAnomaly x = new RuleAnomaly();
        Check.add(x, 0, 1, 0, 3, 0, 15, 2);
        Check.add(x, 1, 1, 4, 7, 0, 15, 2);
        Check.add(x, 2, 0, 2, 5, 0, 15, 2);
        Check.due("covered by two: owned(2)", 0, x.owned(2));
        Check.due("covered by two: firstOwned(2)", RuleAnomaly.NONE, x.firstOwned(2));
        x.remove(0);
        Check.due("covered by one: owned(1)", 64, x.owned(1));
        Check.due("covered by one: firstOwned(1)", 64, x.firstOwned(1));
    }

    private static void lastPacket() {
        RuleAnomaly x = new RuleAnomaly();
        Check.add(x, 0, 1, 15, 15, 15, 15, 1);
        Check.due("last packet: owned(0)", 1, x.owned(0));
        Check.due("last packet: firstOwned(0)", 511, x.firstOwned(0));
        Check.due("last packet: firstChanged()", 511, x.firstChanged());
        Check.due("last packet: changed()", 1, x.changed());
    }
}
