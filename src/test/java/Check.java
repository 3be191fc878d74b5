/** Counts and prints the answers that are not as due; ends a test. */
final class Check {
    private static int wrong = 0;

    private Check() {
    }

    static void due(String call, int want, int got) {
        if (got != want) {
            wrong++;
            System.out.println(call + " answered " + got + ", due is " + want);
        }
    }

    static void due(String call, boolean want, boolean got) {
        if (got != want) {
            wrong++;
            System.out.println(call + " answered " + got + ", due is " + want);
        }
    }

    static void finish() {
        System.out.println(wrong == 0 ? "all answers are as due" : wrong + " answers are not as due");
        if (wrong != 0) {
            System.exit(1);
        }
    }

    /** Sets the whole draft and inserts it. */
    static int add(RuleAnomaly x, int at, int action, int sFrom, int sTo, int dFrom, int dTo, int set) {
        due("draftRange(0, ..)", true, x.draftRange(0, sFrom, sTo));
        due("draftRange(1, ..)", true, x.draftRange(1, dFrom, dTo));
        due("draftSet(" + set + ")", true, x.draftSet(set));
        return x.insert(at, action);
    }
}
