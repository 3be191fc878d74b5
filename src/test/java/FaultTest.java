/** Promise 9: fault. */
public final class FaultTest {
    public static void main(String[] args) {
        clean();
        shadowed();
        useless();
        redundant();
        correlated();
        general();
        firstAndLastPacket();
        firstThatApplies();
        onlyEarlierRulesCount();
        earlierRuleWithoutPackets();
        faultsFollowTheList();
        wrongRules();
        Check.finish();
    }

    private static void expect(String story, RuleAnomaly x, int... faults) {
        for (int i = 0; i < faults.length; i++) {
            Check.due(story + ": fault(" + i + ")", faults[i], x.fault(i));
        }
        Check.due(story + ": fault behind the end", RuleAnomaly.BAD, x.fault(faults.length));
    }

    private static RuleAnomaly none() {
        return new RuleAnomaly();
    }

    private static void clean() {
        RuleAnomaly x = none();
        x.insert(0, 1);
        expect("allow all", x, RuleAnomaly.CLEAN);

        x = none();
        Check.add(x, 0, 1, 0, 3, 0, 15, 2);
        Check.add(x, 1, 1, 8, 9, 0, 15, 2);
        expect("two apart, same action", x, RuleAnomaly.CLEAN, RuleAnomaly.CLEAN);

        x = none();
        Check.add(x, 0, 1, 0, 5, 0, 5, 2);
        Check.add(x, 1, 1, 3, 9, 3, 9, 2);
        expect("two crossing, same action", x, RuleAnomaly.CLEAN, RuleAnomaly.CLEAN);

        x = none();
        Check.add(x, 0, 0, 0, 3, 0, 15, 2);
        Check.add(x, 1, 1, 4, 9, 0, 15, 2);
        expect("deny and allow side by side", x, RuleAnomaly.REDUNDANT, RuleAnomaly.CLEAN);

        // The ranges of s and d are the same and only the sets of p keep the rules apart.
        x = none();
        Check.add(x, 0, 0, 0, 3, 0, 3, 0);
        Check.add(x, 1, 1, 0, 3, 0, 3, 1);
        expect("apart in p alone", x, RuleAnomaly.REDUNDANT, RuleAnomaly.CLEAN);
    }

    private static void shadowed() {
        RuleAnomaly x = none();
        x.insert(0, 1);
        x.insert(1, 0);
        expect("deny behind the same allow", x, RuleAnomaly.CLEAN, RuleAnomaly.SHADOWED);

        x = none();
        x.insert(0, 0);
        x.insert(1, 1);
        expect("allow behind the same deny", x, RuleAnomaly.CLEAN, RuleAnomaly.SHADOWED);

        // One packet of many is decided otherwise.
        x = none();
        Check.add(x, 0, 1, 15, 15, 15, 15, 1);
        Check.add(x, 1, 0, 0, 15, 0, 15, 2);
        x.insert(2, 0);
        expect("one packet decided otherwise", x, RuleAnomaly.CLEAN, RuleAnomaly.REDUNDANT, RuleAnomaly.SHADOWED);
    }

    private static void useless() {
        RuleAnomaly x = none();
        x.insert(0, 1);
        Check.add(x, 1, 1, 3, 4, 5, 6, 0);
        expect("inside one with the same action", x, RuleAnomaly.CLEAN, RuleAnomaly.USELESS);

        // The only packet decided otherwise is not matched by the last rule.
        x = none();
        Check.add(x, 0, 0, 0, 0, 0, 0, 0);
        Check.add(x, 1, 1, 0, 15, 0, 15, 2);
        Check.add(x, 2, 1, 0, 15, 0, 15, 1);
        expect("other action outside", x, RuleAnomaly.CLEAN, RuleAnomaly.GENERAL, RuleAnomaly.USELESS);

        // A rule with the other action matches its packets, but is not their decider.
        x = none();
        Check.add(x, 0, 1, 0, 7, 0, 15, 2);
        Check.add(x, 1, 0, 0, 15, 0, 15, 2);
        Check.add(x, 2, 1, 2, 3, 0, 15, 2);
        expect("other action behind the decider", x,
            RuleAnomaly.CLEAN, RuleAnomaly.REDUNDANT, RuleAnomaly.USELESS);
    }

    private static void redundant() {
        RuleAnomaly x = none();
        x.insert(0, 0);
        expect("deny alone", x, RuleAnomaly.REDUNDANT);

        x = none();
        Check.add(x, 0, 1, 3, 4, 0, 15, 2);
        Check.add(x, 1, 1, 0, 15, 0, 15, 2);
        expect("allow before a wider allow", x, RuleAnomaly.REDUNDANT, RuleAnomaly.CLEAN);

        x = none();
        Check.add(x, 0, 0, 3, 4, 0, 15, 2);
        Check.add(x, 1, 0, 5, 9, 0, 15, 2);
        Check.add(x, 2, 1, 3, 4, 0, 15, 0);
        expect("deny before an allow", x, RuleAnomaly.CLEAN, RuleAnomaly.REDUNDANT, RuleAnomaly.SHADOWED);

        // Neither of the later rules would take over all its packets, but the two together would.
        x = none();
        Check.add(x, 0, 1, 2, 9, 4, 4, 2);
        Check.add(x, 1, 1, 0, 5, 4, 4, 2);
        Check.add(x, 2, 1, 6, 12, 4, 4, 2);
        expect("taken over by two", x, RuleAnomaly.REDUNDANT, RuleAnomaly.CLEAN, RuleAnomaly.CLEAN);

        // Without the rule, a single packet would be decided otherwise.
        x = none();
        Check.add(x, 0, 1, 2, 9, 4, 4, 2);
        Check.add(x, 1, 0, 9, 9, 4, 4, 1);
        Check.add(x, 2, 1, 0, 15, 4, 4, 2);
        expect("one packet needs it", x, RuleAnomaly.CLEAN, RuleAnomaly.SHADOWED, RuleAnomaly.GENERAL);
    }

    private static void correlated() {
        RuleAnomaly x = none();
        Check.add(x, 0, 1, 0, 7, 0, 15, 2);
        Check.add(x, 1, 0, 4, 11, 0, 15, 2);
        Check.add(x, 2, 1, 0, 15, 0, 15, 2);
        expect("crossing in s", x, RuleAnomaly.CLEAN, RuleAnomaly.CORRELATED, RuleAnomaly.GENERAL);

        x = none();
        Check.add(x, 0, 0, 0, 15, 0, 7, 2);
        Check.add(x, 1, 1, 0, 15, 7, 11, 2);
        expect("crossing in d at one value", x, RuleAnomaly.CLEAN, RuleAnomaly.CORRELATED);

        x = none();
        Check.add(x, 0, 0, 0, 15, 3, 3, 0);
        Check.add(x, 1, 1, 2, 2, 0, 15, 2);
        expect("a cross", x, RuleAnomaly.CLEAN, RuleAnomaly.CORRELATED);

        x = none();
        Check.add(x, 0, 0, 0, 7, 0, 15, 0);
        Check.add(x, 1, 1, 3, 3, 0, 15, 2);
        expect("crossing in s and p", x, RuleAnomaly.CLEAN, RuleAnomaly.CORRELATED);

        // One packet in common, at a corner.
        x = none();
        Check.add(x, 0, 0, 0, 7, 0, 7, 0);
        Check.add(x, 1, 1, 7, 9, 7, 9, 2);
        expect("a corner", x, RuleAnomaly.CLEAN, RuleAnomaly.CORRELATED);
        x = none();
        Check.add(x, 0, 0, 0, 7, 0, 7, 0);
        Check.add(x, 1, 1, 7, 9, 8, 9, 2);
        expect("next to a corner", x, RuleAnomaly.REDUNDANT, RuleAnomaly.CLEAN);
    }

    private static void general() {
        RuleAnomaly x = none();
        Check.add(x, 0, 0, 4, 5, 6, 7, 0);
        Check.add(x, 1, 1, 0, 15, 0, 15, 2);
        expect("wider in all", x, RuleAnomaly.CLEAN, RuleAnomaly.GENERAL);

        x = none();
        Check.add(x, 0, 0, 4, 5, 6, 7, 1);
        Check.add(x, 1, 1, 4, 5, 6, 7, 2);
        expect("wider in p alone", x, RuleAnomaly.CLEAN, RuleAnomaly.GENERAL);

        x = none();
        Check.add(x, 0, 0, 4, 5, 6, 7, 1);
        Check.add(x, 1, 1, 4, 6, 6, 7, 1);
        expect("wider at one end of s", x, RuleAnomaly.CLEAN, RuleAnomaly.GENERAL);

        x = none();
        Check.add(x, 0, 1, 4, 5, 6, 7, 1);
        Check.add(x, 1, 0, 4, 5, 5, 7, 1);
        Check.add(x, 2, 1, 0, 15, 0, 15, 2);
        expect("deny wider at one end of d", x, RuleAnomaly.CLEAN, RuleAnomaly.GENERAL, RuleAnomaly.GENERAL);

        // The one inside need not be the first of the list.
        x = none();
        Check.add(x, 0, 1, 0, 1, 0, 1, 2);
        Check.add(x, 1, 0, 9, 9, 9, 9, 2);
        Check.add(x, 2, 1, 8, 15, 8, 15, 2);
        expect("inside, not in front", x, RuleAnomaly.CLEAN, RuleAnomaly.CLEAN, RuleAnomaly.GENERAL);
    }

    /** Faults that hang on the first packet alone, or on the last one. */
    private static void firstAndLastPacket() {
        for (int end = 0; end <= 1; end++) {
            int v = 15 * end;
            String story = "packet " + 511 * end;
            RuleAnomaly x = none();
            Check.add(x, 0, 1, v, v, v, v, end);
            expect(story + " allowed alone", x, RuleAnomaly.CLEAN);
            Check.add(x, 1, 0, 0, 15, 0, 15, 2);
            x.insert(2, 0);
            expect(story + " decided otherwise", x, RuleAnomaly.CLEAN, RuleAnomaly.REDUNDANT, RuleAnomaly.SHADOWED);

            x = none();
            Check.add(x, 0, 0, v, v, 0, 15, end);
            Check.add(x, 1, 1, 0, 15, v, v, end);
            expect(story + " in common", x, RuleAnomaly.CLEAN, RuleAnomaly.CORRELATED);

            x = none();
            Check.add(x, 0, 0, v, v, v, v, 2);
            Check.add(x, 1, 1, 0, 15, 0, 15, 1 - end);
            expect(story + " matched by the earlier rule alone", x, RuleAnomaly.CLEAN, RuleAnomaly.CORRELATED);
        }
    }

    private static void firstThatApplies() {
        // Correlated with rule 1 and general over rule 0.
        RuleAnomaly x = none();
        Check.add(x, 0, 0, 4, 4, 4, 4, 2);
        Check.add(x, 1, 0, 6, 9, 4, 4, 2);
        Check.add(x, 2, 1, 3, 7, 0, 15, 2);
        expect("correlated before general", x, RuleAnomaly.CLEAN, RuleAnomaly.CLEAN, RuleAnomaly.CORRELATED);

        // Redundant, and also crossed by an earlier allow.
        x = none();
        Check.add(x, 0, 1, 0, 7, 0, 15, 2);
        Check.add(x, 1, 0, 4, 11, 0, 15, 2);
        expect("redundant before correlated", x, RuleAnomaly.CLEAN, RuleAnomaly.REDUNDANT);

        // Redundant, and also with an allow inside.
        x = none();
        Check.add(x, 0, 1, 5, 5, 0, 15, 2);
        Check.add(x, 1, 0, 4, 11, 0, 15, 2);
        expect("redundant before general", x, RuleAnomaly.CLEAN, RuleAnomaly.REDUNDANT);

        // Owns nothing, and each earlier deny crosses it.
        x = none();
        Check.add(x, 0, 0, 0, 5, 0, 15, 2);
        Check.add(x, 1, 0, 6, 15, 0, 15, 2);
        Check.add(x, 2, 1, 3, 9, 0, 15, 2);
        expect("shadowed before correlated", x, RuleAnomaly.CLEAN, RuleAnomaly.CLEAN, RuleAnomaly.SHADOWED);
    }

    private static void onlyEarlierRulesCount() {
        RuleAnomaly x = none();
        Check.add(x, 0, 1, 4, 11, 0, 15, 2);
        Check.add(x, 1, 0, 0, 7, 0, 15, 2);
        Check.add(x, 2, 0, 5, 5, 5, 5, 2);
        expect("later rules", x, RuleAnomaly.CLEAN, RuleAnomaly.REDUNDANT, RuleAnomaly.SHADOWED);
    }

    /** An earlier rule counts by what it matches, even if it owns nothing. */
    private static void earlierRuleWithoutPackets() {
        RuleAnomaly x = none();
        Check.add(x, 0, 1, 0, 7, 0, 15, 2);
        Check.add(x, 1, 0, 3, 4, 0, 15, 2);
        Check.add(x, 2, 1, 4, 9, 0, 15, 2);
        expect("crossed by a shadowed rule", x, RuleAnomaly.CLEAN, RuleAnomaly.SHADOWED, RuleAnomaly.CORRELATED);

        x = none();
        Check.add(x, 0, 1, 0, 7, 0, 15, 2);
        Check.add(x, 1, 0, 4, 4, 0, 15, 2);
        Check.add(x, 2, 1, 4, 9, 0, 15, 2);
        expect("around a shadowed rule", x, RuleAnomaly.CLEAN, RuleAnomaly.SHADOWED, RuleAnomaly.GENERAL);
    }

    private static void faultsFollowTheList() {
        RuleAnomaly x = none();
        Check.add(x, 0, 1, 0, 15, 0, 15, 2);
        Check.add(x, 0, 0, 4, 5, 4, 5, 2);
        expect("deny put in front", x, RuleAnomaly.CLEAN, RuleAnomaly.GENERAL);
        x.insert(2, 0);
        // Its packets are denied already, by the rule in front.
        expect("deny put behind", x, RuleAnomaly.CLEAN, RuleAnomaly.GENERAL, RuleAnomaly.USELESS);
        x.remove(0);
        expect("deny in front taken out", x, RuleAnomaly.CLEAN, RuleAnomaly.SHADOWED);
        x.remove(0);
        expect("allow taken out", x, RuleAnomaly.REDUNDANT);
        // The saved decisions have no part in a fault.
        x = none();
        x.insert(0, 1);
        x.save();
        x.remove(0);
        x.insert(0, 0);
        expect("deny with all saved as allowed", x, RuleAnomaly.REDUNDANT);
    }

    private static void wrongRules() {
        RuleAnomaly x = none();
        Check.due("empty: fault(0)", RuleAnomaly.BAD, x.fault(0));
        x.insert(0, 1);
        for (int i : new int[] {Integer.MIN_VALUE, -3, -1, 1, 9, 10, Integer.MAX_VALUE}) {
            Check.due("fault(" + i + ")", RuleAnomaly.BAD, x.fault(i));
        }
    }
}
