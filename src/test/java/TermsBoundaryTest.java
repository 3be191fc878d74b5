/** The section "Terms": each sentence there that names a boundary has a method of its own. */
public final class TermsBoundaryTest {
    private static final int CLEAN = RuleAnomaly.CLEAN;
    private static final int SHADOWED = RuleAnomaly.SHADOWED;
    private static final int USELESS = RuleAnomaly.USELESS;
    private static final int REDUNDANT = RuleAnomaly.REDUNDANT;
    private static final int CORRELATED = RuleAnomaly.CORRELATED;
    private static final int GENERAL = RuleAnomaly.GENERAL;

    public static void main(String[] args) {
        leastAndGreatestPacket();
        everyPacketHasItsNumber();
        rangesIncludeBothEnds();
        setsOfP();
        upToTenRules();
        theFirstOfTenDecides();
        decisionWithoutRule();
        savedDecisionInTheBeginning();
        ownsOnePacketOrNone();
        shadowedByOnePacketOrNone();
        redundantButForOnePacket();
        decidedByOnePEach();
        correlatedByOnePacket();
        correlatedOnlyByEarlierAndOther();
        generalByOnePacket();
        generalOnlyByEarlierAndOther();
        faultsAcrossTenRules();
        shadowedBeforeAll();
        uselessBeforeAll();
        redundantBeforeCorrelatedAndGeneral();
        correlatedBeforeGeneral();
        Check.finish();
    }

    /** A rule is {action, s from, s to, d from, d to, set}. */
    private static RuleAnomaly list(int[]... rules) {
        RuleAnomaly x = new RuleAnomaly();
        for (int k = 0; k < rules.length; k++) {
            int[] r = rules[k];
            Check.due("insert", k + 1, Check.add(x, k, r[0], r[1], r[2], r[3], r[4], r[5]));
        }
        return x;
    }

    private static int[] rule(int action, int sFrom, int sTo, int dFrom, int dTo, int set) {
        return new int[] {action, sFrom, sTo, dFrom, dTo, set};
    }

    private static int[] all(int action) {
        return rule(action, 0, 15, 0, 15, 2);
    }

    private static void expect(String story, RuleAnomaly x, int... faults) {
        for (int i = 0; i < faults.length; i++) {
            Check.due(story + ": fault(" + i + ")", faults[i], x.fault(i));
        }
    }

    /** "A PACKET is a triple (s, d, p) with s and d from 0 to 15 and p 0 or 1". */
    private static void leastAndGreatestPacket() {
        RuleAnomaly x = list(all(1));
        for (int s : new int[] {0, 15}) {
            for (int d : new int[] {0, 15}) {
                for (int p : new int[] {0, 1}) {
                    Check.due("all: decider(" + s + ", " + d + ", " + p + ")", 0, x.decider(s, d, p));
                }
            }
        }
        for (int v : new int[] {-1, 16}) {
            Check.due("all: decider(" + v + ", 0, 0)", RuleAnomaly.BAD, x.decider(v, 0, 0));
            Check.due("all: decider(0, " + v + ", 0)", RuleAnomaly.BAD, x.decider(0, v, 0));
        }
        Check.due("all: decider(0, 0, -1)", RuleAnomaly.BAD, x.decider(0, 0, -1));
        Check.due("all: decider(0, 0, 2)", RuleAnomaly.BAD, x.decider(0, 0, 2));
        Check.due("all: owned(0)", 512, x.owned(0));
        Check.due("all: save()", 512, x.save());
    }

    /** "its number is 32 * s + 2 * d + p". */
    private static void everyPacketHasItsNumber() {
        for (int s = 0; s <= 15; s++) {
            for (int d = 0; d <= 15; d++) {
                for (int p = 0; p <= 1; p++) {
                    int number = 32 * s + 2 * d + p;
                    String story = "packet " + number + " alone: ";
                    RuleAnomaly x = list(rule(1, s, s, d, d, p));
                    Check.due(story + "decider", 0, x.decider(s, d, p));
                    Check.due(story + "decider with the other p", RuleAnomaly.NONE, x.decider(s, d, 1 - p));
                    Check.due(story + "owned(0)", 1, x.owned(0));
                    Check.due(story + "firstOwned(0)", number, x.firstOwned(0));
                    Check.due(story + "changed()", 1, x.changed());
                    Check.due(story + "firstChanged()", number, x.firstChanged());
                    Check.due(story + "save()", 1, x.save());
                    Check.due(story + "firstChanged() when saved", RuleAnomaly.NONE, x.firstChanged());
                }
            }
        }
    }

    /** "A RULE has a range of s (from .. to, both included), a range of d". */
    private static void rangesIncludeBothEnds() {
        for (int from = 0; from <= 15; from++) {
            for (int to = from; to <= 15; to++) {
                RuleAnomaly inS = list(rule(1, from, to, 7, 7, 2));
                RuleAnomaly inD = list(rule(1, 7, 7, from, to, 2));
                String story = "range " + from + " .. " + to + ": ";
                for (int v : new int[] {from, to}) {
                    Check.due(story + "s = " + v, 0, inS.decider(v, 7, 1));
                    Check.due(story + "d = " + v, 0, inD.decider(7, v, 1));
                }
                for (int v : new int[] {from - 1, to + 1}) {
                    int want = v < 0 || v > 15 ? RuleAnomaly.BAD : RuleAnomaly.NONE;
                    Check.due(story + "s = " + v, want, inS.decider(v, 7, 1));
                    Check.due(story + "d = " + v, want, inD.decider(7, v, 1));
                }
                Check.due(story + "owned by s", 2 * (to - from + 1), inS.owned(0));
                Check.due(story + "owned by d", 2 * (to - from + 1), inD.owned(0));
                Check.due(story + "first by s", 32 * from + 2 * 7, inS.firstOwned(0));
                Check.due(story + "first by d", 32 * 7 + 2 * from, inD.firstOwned(0));
            }
        }
    }

    /** "a set of p (0 only, 1 only, or both)". */
    private static void setsOfP() {
        for (int set = 0; set <= 2; set++) {
            RuleAnomaly x = list(rule(1, 15, 15, 15, 15, set));
            Check.due("set " + set + ": p = 0", set == 1 ? RuleAnomaly.NONE : 0, x.decider(15, 15, 0));
            Check.due("set " + set + ": p = 1", set == 0 ? RuleAnomaly.NONE : 0, x.decider(15, 15, 1));
            Check.due("set " + set + ": owned(0)", set == 2 ? 2 : 1, x.owned(0));
        }
    }

    /** "The list has up to 10 rules, numbered 0, 1, .. from the front." */
    private static void upToTenRules() {
        RuleAnomaly x = Edges.listOf(10);
        for (int k = 0; k < 10; k++) {
            Check.due("ten rules: decider(" + k + ", 0, 0)", k, x.decider(k, 0, 0));
            Check.due("ten rules: owned(" + k + ")", 2 * (k + 1), x.owned(k));
            Check.due("ten rules: firstOwned(" + k + ")", 32 * k, x.firstOwned(k));
            Check.due("ten rules: fault(" + k + ")", k % 2 == 1 ? CLEAN : REDUNDANT, x.fault(k));
        }
        Check.due("ten rules: decider(10, 0, 0)", RuleAnomaly.NONE, x.decider(10, 0, 0));
        Check.due("ten rules: save()", 2 * (2 + 4 + 6 + 8 + 10), x.save());
        Check.due("an eleventh rule", RuleAnomaly.FULL, x.insert(10, 1));
        Check.due("no rule 10", RuleAnomaly.BAD, x.owned(10));
    }

    /** "The DECIDER of a packet is the first rule that matches it". */
    private static void theFirstOfTenDecides() {
        RuleAnomaly x = new RuleAnomaly();
        for (int k = 0; k < 10; k++) {
            // Each has a row more than the one before it, so that rule k is the first to match s = k.
            Check.add(x, k, k % 2, 0, k, 0, 15, 2);
        }
        for (int s = 0; s <= 15; s++) {
            int want = s < 10 ? s : RuleAnomaly.NONE;
            Check.due("growing rules: decider(" + s + ", 15, 1)", want, x.decider(s, 15, 1));
        }
        for (int k = 0; k < 10; k++) {
            Check.due("growing rules: owned(" + k + ")", 32, x.owned(k));
            Check.due("growing rules: firstOwned(" + k + ")", 32 * k, x.firstOwned(k));
        }
    }

    /** "the packet's DECISION is that rule's action, or 0 if no rule matches it". */
    private static void decisionWithoutRule() {
        RuleAnomaly x = new RuleAnomaly();
        Check.due("no rule: save()", 0, x.save());
        Check.due("no rule: changed()", 0, x.changed());
        x.insert(0, 1);
        x.save();
        x.remove(0);
        Check.due("all saved as 1, no rule: changed()", 512, x.changed());
        Check.due("all saved as 1, no rule: firstChanged()", 0, x.firstChanged());
        x.insert(0, 0);
        Check.due("all saved as 1, deny all: changed()", 512, x.changed());
        expect("deny where nothing else matches", x, REDUNDANT);
        x = list(rule(1, 15, 15, 15, 15, 1));
        expect("allow where nothing else matches", x, CLEAN);
    }

    /** "Besides the list there is a SAVED decision for every packet, 0 in the beginning." */
    private static void savedDecisionInTheBeginning() {
        RuleAnomaly x = list(all(0));
        Check.due("deny all: changed()", 0, x.changed());
        Check.due("deny all: firstChanged()", RuleAnomaly.NONE, x.firstChanged());
        x = list(all(1));
        Check.due("allow all: changed()", 512, x.changed());
        Check.due("allow all: firstChanged()", 0, x.firstChanged());
    }

    /** Three rules that match all packets but the last one (or the first). */
    private static int[][] allBut(int end, int action, int[]... more) {
        int low = end == 15 ? 0 : 1;
        int high = end == 15 ? 14 : 15;
        int[][] rules = new int[3 + more.length][];
        rules[0] = rule(action, low, high, 0, 15, 2);
        rules[1] = rule(action, end, end, low, high, 2);
        rules[2] = rule(action, end, end, end, end, end == 15 ? 0 : 1);
        System.arraycopy(more, 0, rules, 3, more.length);
        return rules;
    }

    /** "it owns no packet" against "it owns packets": one packet is enough to own. */
    private static void ownsOnePacketOrNone() {
        for (int end : new int[] {0, 15}) {
            int p = end == 15 ? 1 : 0;
            String story = "all but packet " + (33 * end + end / 15) + ", then ";
            RuleAnomaly x = list(allBut(end, 1, all(1)));
            Check.due(story + "owned(3)", 1, x.owned(3));
            expect(story + "allow all", x, REDUNDANT, REDUNDANT, REDUNDANT, CLEAN);
            x = list(allBut(end, 1, all(0)));
            expect(story + "deny all", x, CLEAN, CLEAN, CLEAN, REDUNDANT);
            x = list(allBut(end, 0, all(1)));
            expect(story + "allow all behind deny", x, CLEAN, CLEAN, CLEAN, GENERAL);
            x = list(allBut(end, 1, rule(1, end, end, end, end, p), all(1)));
            Check.due(story + "that one: owned(4)", 0, x.owned(4));
            Check.due(story + "that one: firstOwned(4)", RuleAnomaly.NONE, x.firstOwned(4));
            Check.due(story + "that one, allow all: fault(4)", USELESS, x.fault(4));
            x = list(allBut(end, 1, rule(1, end, end, end, end, p), all(0)));
            Check.due(story + "that one, deny all: fault(4)", SHADOWED, x.fault(4));
        }
    }

    /** "SHADOWED: .. some packet that it matches has a decision different from its action": one, or none. */
    private static void shadowedByOnePacketOrNone() {
        for (int end : new int[] {0, 15}) {
            int p = end == 15 ? 1 : 0;
            String story = "one packet at " + end;
            for (int action = 0; action <= 1; action++) {
                int[] one = rule(1 - action, end, end, end, end, p);
                RuleAnomaly x = list(one, all(action), all(action));
                Check.due(story + " decided otherwise: fault(2)", SHADOWED, x.fault(2));
                // The packet decided otherwise lies just outside the last rule.
                x = list(one, all(action), rule(action, 0, 15, 0, 15, 1 - p));
                Check.due(story + " outside in p: fault(2)", USELESS, x.fault(2));
                int low = end == 0 ? 1 : 0;
                int high = end == 0 ? 15 : 14;
                x = list(one, all(action), rule(action, low, high, 0, 15, 2));
                Check.due(story + " outside in s: fault(2)", USELESS, x.fault(2));
                x = list(one, all(action), rule(action, 0, 15, low, high, 2));
                Check.due(story + " outside in d: fault(2)", USELESS, x.fault(2));
                // A rule with the other action in between is not the decider.
                x = list(all(action), all(1 - action), all(action));
                Check.due("not the decider: fault(2)", USELESS, x.fault(2));
            }
        }
    }

    /** "REDUNDANT: .. with the rule taken out of the list no packet's decision would change": none, or one. */
    private static void redundantButForOnePacket() {
        for (int end : new int[] {0, 15}) {
            String story = "all but one at " + end;
            int[][] behind = allBut(end, 1);
            RuleAnomaly x = list(all(1), behind[0], behind[1], behind[2]);
            expect(story + " taken over", x, CLEAN, USELESS, USELESS, USELESS);
            x = list(all(1), behind[0], behind[1], behind[2], rule(1, end, end, end, end, 2));
            expect(story + " and that one too", x, REDUNDANT, USELESS, USELESS, USELESS, USELESS);
            x = list(all(0), rule(1, end, end, end, end, end == 15 ? 1 : 0));
            expect(story + " denied without it too", x, CLEAN, SHADOWED);
        }
        expect("deny all alone", list(all(0)), REDUNDANT);
        expect("deny the last packet alone", list(rule(0, 15, 15, 15, 15, 1)), REDUNDANT);
        expect("allow the first packet alone", list(rule(1, 0, 0, 0, 0, 0)), CLEAN);
        expect("allow before allow all", list(rule(1, 0, 0, 0, 0, 0), all(1)), REDUNDANT, CLEAN);
    }

    /** Two rules, one for each p, leave nothing of an s and a d to a rule with both. */
    private static void decidedByOnePEach() {
        for (int v : new int[] {0, 15}) {
            int[] zero = rule(1, v, v, v, v, 0);
            int[] one = rule(1, v, v, v, v, 1);
            RuleAnomaly x = list(zero, one, all(0), rule(1, v, v, v, v, 2));
            expect("both p taken at " + v, x, CLEAN, CLEAN, REDUNDANT, USELESS);
            int next = v == 0 ? 1 : 14;
            int low = v == 0 ? 0 : 14;
            x = list(zero, one, rule(1, v, v, low, low + 1, 2), rule(1, v, v, next, next, 2));
            expect("only the neighbour of " + v + " owned", x, REDUNDANT, REDUNDANT, REDUNDANT, USELESS);
            x = list(zero, all(0), rule(1, v, v, v, v, 2));
            expect("one p of two taken at " + v, x, CLEAN, GENERAL, SHADOWED);
        }
    }

    /** An allow or deny rule behind an earlier one with the other action; allow all at the end keeps a deny from REDUNDANT. */
    private static void pair(String story, int[] earlier, int[] rule, int want) {
        earlier[0] = 0;
        rule[0] = 1;
        Check.due(story + ", allow behind deny: fault(1)", want, list(earlier, rule).fault(1));
        earlier[0] = 1;
        rule[0] = 0;
        Check.due(story + ", deny behind allow: fault(1)", want, list(earlier, rule, all(1)).fault(1));
        earlier[0] = 1;
        rule[0] = 1;
        int same = want == SHADOWED ? USELESS : CLEAN;
        Check.due(story + ", same action: fault(1)", same, list(earlier, rule).fault(1));
    }

    /** "CORRELATED: .. some, but not all, of the packets that rule i matches, and .. some packet that rule i does not match". */
    private static void correlatedByOnePacket() {
        // Two packets each: one in common, one of either alone.
        pair("s against s", rule(0, 7, 8, 3, 3, 0), rule(0, 8, 9, 3, 3, 0), CORRELATED);
        pair("d against d", rule(0, 3, 3, 7, 8, 1), rule(0, 3, 3, 6, 7, 1), CORRELATED);
        pair("s against d", rule(0, 7, 8, 3, 3, 0), rule(0, 8, 8, 3, 4, 0), CORRELATED);
        pair("s against p", rule(0, 7, 8, 3, 3, 0), rule(0, 7, 7, 3, 3, 2), CORRELATED);
        pair("p against d", rule(0, 7, 7, 3, 3, 2), rule(0, 7, 7, 3, 4, 1), CORRELATED);
        pair("first packet in common", rule(0, 0, 15, 0, 0, 0), rule(0, 0, 0, 0, 15, 0), CORRELATED);
        pair("last packet in common", rule(0, 15, 15, 0, 15, 1), rule(0, 0, 15, 15, 15, 1), CORRELATED);
        pair("first packet not matched", rule(0, 0, 0, 0, 1, 0), rule(0, 0, 15, 1, 15, 0), CORRELATED);
        pair("last packet not matched", rule(0, 15, 15, 14, 15, 1), rule(0, 0, 15, 0, 14, 1), CORRELATED);
        // No packet in common: next to each other.
        pair("side by side in s", rule(0, 6, 7, 3, 3, 2), rule(0, 8, 9, 3, 3, 2), CLEAN);
        pair("side by side in d", rule(0, 6, 7, 3, 3, 2), rule(0, 6, 7, 4, 4, 2), CLEAN);
        pair("side by side in p", rule(0, 6, 7, 3, 3, 0), rule(0, 6, 7, 3, 3, 1), CLEAN);
        pair("corner to corner", rule(0, 6, 7, 3, 3, 2), rule(0, 8, 9, 4, 4, 2), CLEAN);
        // All packets of rule i, and more or no more.
        pair("all of them and one more", rule(0, 7, 8, 3, 3, 0), rule(0, 8, 8, 3, 3, 0), SHADOWED);
        pair("all of them", rule(0, 7, 8, 3, 3, 0), rule(0, 7, 8, 3, 3, 0), SHADOWED);
    }

    /** "an earlier rule with the other action": a later one, or one with the same action, does not correlate. */
    private static void correlatedOnlyByEarlierAndOther() {
        RuleAnomaly x = list(rule(1, 4, 11, 0, 15, 2), rule(0, 8, 15, 0, 15, 2), all(1));
        expect("crossed by a later one", x, CLEAN, CORRELATED, GENERAL);
        x = list(rule(1, 4, 11, 0, 15, 2), rule(1, 8, 15, 0, 15, 2));
        expect("crossed by the same action", x, CLEAN, CLEAN);
        // The earlier rule owns nothing, and still it matches.
        x = list(rule(1, 0, 7, 0, 15, 2), rule(0, 3, 4, 0, 15, 2), rule(1, 4, 9, 0, 15, 2));
        expect("crossed by one that owns none", x, CLEAN, SHADOWED, CORRELATED);
    }

    /** "GENERAL: an earlier rule with the other action matches only packets that rule i matches too". */
    private static void generalByOnePacket() {
        // Rule i has one packet more than the earlier rule, on each side.
        pair("one more above in s", rule(0, 7, 7, 3, 3, 0), rule(0, 7, 8, 3, 3, 0), GENERAL);
        pair("one more below in s", rule(0, 7, 7, 3, 3, 0), rule(0, 6, 7, 3, 3, 0), GENERAL);
        pair("one more above in d", rule(0, 7, 7, 3, 3, 0), rule(0, 7, 7, 3, 4, 0), GENERAL);
        pair("one more below in d", rule(0, 7, 7, 3, 3, 0), rule(0, 7, 7, 2, 3, 0), GENERAL);
        pair("one more in p above 0", rule(0, 7, 7, 3, 3, 0), rule(0, 7, 7, 3, 3, 2), GENERAL);
        pair("one more in p below 1", rule(0, 7, 7, 3, 3, 1), rule(0, 7, 7, 3, 3, 2), GENERAL);
        pair("the first packet in all", rule(0, 0, 0, 0, 0, 0), all(0), GENERAL);
        pair("the last packet in all", rule(0, 15, 15, 15, 15, 1), all(0), GENERAL);
        pair("all but the first row in all", rule(0, 1, 15, 0, 15, 2), all(0), GENERAL);
        pair("all but the last row in all", rule(0, 0, 14, 0, 15, 2), all(0), GENERAL);
        // One packet of the earlier rule lies outside.
        pair("one outside", rule(0, 7, 7, 3, 3, 2), rule(0, 7, 8, 3, 3, 0), CORRELATED);
    }

    private static void generalOnlyByEarlierAndOther() {
        RuleAnomaly x = list(all(1), rule(0, 7, 7, 3, 3, 0));
        expect("one inside, but later", x, CLEAN, SHADOWED);
        x = list(rule(0, 7, 7, 3, 3, 0), all(1), all(0));
        expect("one inside, earlier", x, CLEAN, GENERAL, SHADOWED);
        x = list(rule(1, 7, 7, 3, 3, 0), all(1));
        expect("one inside with the same action", x, REDUNDANT, CLEAN);
        x = list(rule(1, 0, 7, 0, 15, 2), rule(0, 4, 4, 0, 15, 2), rule(1, 4, 9, 0, 15, 2));
        expect("one inside that owns none", x, CLEAN, SHADOWED, GENERAL);
    }

    /** Eight rules of s 8 .. 15 that have no part in the fault, and two that have, at the front, the back or the ends. */
    private static RuleAnomaly tenRules(int[] one, int placeOfOne, int[] other, int placeOfOther) {
        int[][] rules = new int[10][];
        rules[placeOfOne] = one;
        rules[placeOfOther] = other;
        int s = 8;
        for (int k = 0; k < 10; k++) {
            if (rules[k] == null) {
                rules[k] = rule(1, s, s, 0, 15, 2);
                s++;
            }
        }
        return list(rules);
    }

    /** A fault looks at all ten rules: at the first, at the last, and at its neighbour. */
    private static void faultsAcrossTenRules() {
        for (int[] places : new int[][] {{0, 9}, {0, 1}, {8, 9}, {4, 5}}) {
            int first = places[0];
            int last = places[1];
            String story = "ten rules, " + first + " and " + last + ": ";
            int[] deny = rule(0, 2, 4, 2, 4, 2);
            RuleAnomaly x = tenRules(deny, first, rule(1, 3, 5, 2, 4, 2), last);
            Check.due(story + "correlated", CORRELATED, x.fault(last));
            Check.due(story + "crossed by a later one", CLEAN, x.fault(first));
            x = tenRules(deny, first, rule(1, 2, 5, 2, 4, 2), last);
            Check.due(story + "general", GENERAL, x.fault(last));
            x = tenRules(deny, first, rule(1, 3, 3, 2, 4, 2), last);
            Check.due(story + "shadowed", SHADOWED, x.fault(last));
            x = tenRules(deny, first, rule(0, 3, 3, 2, 4, 2), last);
            Check.due(story + "useless", USELESS, x.fault(last));
            x = tenRules(rule(1, 2, 4, 2, 4, 2), first, rule(1, 1, 4, 2, 4, 2), last);
            Check.due(story + "redundant", REDUNDANT, x.fault(first));
            Check.due(story + "takes over", CLEAN, x.fault(last));
        }
    }

    /** "The FAULT of rule i is the first of these that applies": SHADOWED. */
    private static void shadowedBeforeAll() {
        RuleAnomaly x = list(rule(0, 0, 5, 0, 15, 2), rule(0, 6, 15, 0, 15, 2), rule(1, 3, 9, 0, 15, 2));
        Check.due("shadowed and correlated", SHADOWED, x.fault(2));
        x = list(rule(0, 3, 5, 0, 15, 2), rule(0, 6, 9, 0, 15, 2), rule(1, 3, 9, 0, 15, 2));
        Check.due("shadowed and general", SHADOWED, x.fault(2));
        // Taken out, it would be missed by no packet; but it owns none.
        x = list(all(1), rule(0, 3, 9, 0, 15, 2), all(0));
        Check.due("shadowed and not missed", SHADOWED, x.fault(1));
    }

    private static void uselessBeforeAll() {
        RuleAnomaly x = list(all(1), rule(0, 0, 5, 0, 15, 2), rule(1, 3, 9, 0, 15, 2));
        Check.due("useless and correlated", USELESS, x.fault(2));
        x = list(all(1), rule(0, 4, 5, 0, 15, 2), rule(1, 3, 9, 0, 15, 2));
        Check.due("useless and general", USELESS, x.fault(2));
        x = list(all(1), rule(1, 3, 9, 0, 15, 2), all(1));
        Check.due("useless and not missed", USELESS, x.fault(1));
    }

    private static void redundantBeforeCorrelatedAndGeneral() {
        RuleAnomaly x = list(rule(1, 0, 7, 0, 15, 2), rule(0, 4, 11, 0, 15, 2));
        Check.due("redundant deny and correlated", REDUNDANT, x.fault(1));
        x = list(rule(1, 4, 7, 0, 15, 2), rule(0, 4, 11, 0, 15, 2));
        Check.due("redundant deny and general", REDUNDANT, x.fault(1));
        x = list(rule(0, 0, 7, 0, 15, 2), rule(1, 4, 11, 0, 15, 2), all(1));
        Check.due("redundant allow and correlated", REDUNDANT, x.fault(1));
        x = list(rule(0, 4, 7, 0, 15, 2), rule(1, 4, 11, 0, 15, 2), all(1));
        Check.due("redundant allow and general", REDUNDANT, x.fault(1));
    }

    private static void correlatedBeforeGeneral() {
        int[] inside = rule(0, 5, 5, 0, 15, 2);
        int[] crossing = rule(0, 8, 12, 0, 15, 2);
        int[] allow = rule(1, 4, 9, 0, 15, 2);
        Check.due("general first in the list", CORRELATED, list(inside, crossing, allow).fault(2));
        Check.due("correlated first in the list", CORRELATED, list(crossing, inside, allow).fault(2));
        Check.due("general alone", GENERAL, list(inside, allow).fault(1));
        Check.due("correlated alone", CORRELATED, list(crossing, allow).fault(1));
    }
}
