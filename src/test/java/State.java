import java.util.function.Supplier;

/**
 * All that an object holds: the rules with their packets and actions, the draft, and the saved decision of every packet.
 * It is read through the public calls, which use an object up; so each part is read from an object that is made anew.
 */
record State(String list, String draft, String saved) {
    static State of(Supplier<RuleAnomaly> make) {
        int size = sizeOf(make.get());
        Supplier<RuleAnomaly> emptied = () -> keepOnly(-1, size, make.get());
        return new State(listOf(size, make), draftOf(emptied), savedOf(emptied));
    }

    /** No object is read any further once a call on it was refused: that call could be the one that changes something. */
    private static int sizeOf(RuleAnomaly x) {
        int answer = x.insert(0, 1);
        return answer == RuleAnomaly.FULL ? 10 : answer - 1;
    }

    /** Takes out all the rules but one; -1 keeps none. */
    private static RuleAnomaly keepOnly(int kept, int size, RuleAnomaly x) {
        for (int i = size - 1; i >= 0; i--) {
            if (i != kept) {
                x.remove(i);
            }
        }
        return x;
    }

    private static String listOf(int size, Supplier<RuleAnomaly> make) {
        StringBuilder text = new StringBuilder(size + " rules");
        for (int k = 0; k < size; k++) {
            int kept = k;
            Supplier<RuleAnomaly> alone = () -> keepOnly(kept, size, make.get());
            text.append(", ").append(alone.get().save() == 0 ? "deny " : "allow ").append(packetsOfOnlyRule(alone));
        }
        return text.toString();
    }

    private static String draftOf(Supplier<RuleAnomaly> emptied) {
        return packetsOfOnlyRule(() -> {
            RuleAnomaly x = emptied.get();
            x.insert(0, 1);
            return x;
        });
    }

    /** Eight objects, for no object may be used for more than 512 calls. */
    private static String packetsOfOnlyRule(Supplier<RuleAnomaly> make) {
        StringBuilder text = new StringBuilder();
        RuleAnomaly x = null;
        for (int packet = 0; packet < 512; packet++) {
            if (packet % 64 == 0) {
                x = make.get();
            }
            text.append(x.decider(packet / 32, packet / 2 % 16, packet % 2) == 0 ? '1' : '0');
        }
        return text.toString();
    }

    /** With one packet allowed and all others denied, one packet less than with none has changed if 1 is its saved decision. */
    private static String savedOf(Supplier<RuleAnomaly> emptied) {
        StringBuilder text = new StringBuilder();
        RuleAnomaly x = null;
        int withNone = 0;
        for (int packet = 0; packet < 512; packet++) {
            if (packet % 32 == 0) {
                x = emptied.get();
                withNone = x.changed();
            }
            int s = packet / 32;
            int d = packet / 2 % 16;
            Check.add(x, 0, 1, s, s, d, d, packet % 2);
            text.append(x.changed() < withNone ? '1' : '0');
            x.remove(0);
        }
        return text.toString();
    }
}
