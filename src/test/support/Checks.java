// What the tests by hand share: counting wrong answers, and numbers just outside a range.
class Checks {
    static final int BAD = -1;
    static final int FULL = -2;
    static final int LOW = Integer.MIN_VALUE;
    static final int HIGH = Integer.MAX_VALUE;

    private static String sentence = "";
    private static int cases = 0;
    private static int wrong = 0;

    // One case for one sentence of the document; a call that throws breaks this case alone.
    static void check(String said, Runnable test) {
        sentence = said;
        cases++;
        try {
            test.run();
        } catch (RuntimeException thrown) {
            tell("threw " + thrown);
        }
    }

    private static void tell(String fault) {
        wrong++;
        System.out.println("[" + sentence + "] " + fault);
    }

    static void due(String call, int want, int got) {
        if (got != want) {
            tell(call + " answered " + got + ", due is " + want);
        }
    }

    static void due(String call, boolean want, boolean got) {
        due(call, want ? 1 : 0, got ? 1 : 0);
    }

    static void due(String call, String want, String got) {
        if (!got.equals(want)) {
            tell(call + " answered\n" + got + "\ndue is\n" + want);
        }
    }

    static void finish() {
        System.out.println(cases + " cases, " + wrong + " wrong answers");
        if (wrong != 0) {
            System.exit(1);
        }
    }

    // Besides the nearest: numbers that fall back into the range when cut to 4 or 5 bits,
    // to a byte, to a short, or when the sign is lost.
    static int[] below(int least) {
        return new int[] {least - 1, least - 2, least - 16, least - 32, least - 256, least - 65536, LOW + least, LOW};
    }

    static int[] above(int greatest) {
        return new int[] {
            greatest + 1, greatest + 2, greatest + 16, greatest + 32, greatest + 256, greatest + 65536, HIGH
        };
    }

    static int what(int kind, int gate, int strength) {
        return kind + 3 * (gate - 2) + 9 * (strength - 4);
    }

    static int always(int strength) {
        return what(2, 2, strength);
    }

    static void setAll(SwitchNet x, int inputs) {
        for (int i = 2; i <= 4; i++) {
            due("set(" + i + ")", true, x.set(i, inputs >> (i - 2) & 1));
        }
    }

    static void fill(SwitchNet x, int what) {
        for (int k = 0; k < 12; k++) {
            due("add number " + k, k, x.add(5, 6, what));
        }
    }
}
