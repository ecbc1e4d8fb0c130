// A case for each sentence of promises 1 to 7 that names a boundary.
public final class BoundaryChangesTest extends Checks {
    private static void newHasNoSwitches() {
        SwitchNet x = new SwitchNet();
        due("switches()", 0, x.switches());
        due("closed()", 0, x.closed());
        due("shorted()", false, x.shorted());
        for (int k = 0; k < 12; k++) {
            due("remove(" + k + ")", false, x.remove(k));
        }
        due("add", 0, x.add(0, 1, 2));
    }

    private static void newInputsHold0() {
        SwitchNet x = new SwitchNet();
        for (int i = 2; i <= 4; i++) {
            due("holds(" + i + ")", 0, x.holds(i));
            due("would(" + i + ")", 0, x.would(i));
        }
        for (int gate = 2; gate <= 4; gate++) {
            x.add(5, 6, what(0, gate, 4));
            x.add(5, 6, what(1, gate, 4));
        }
        due("closed(), kinds 0 and 1 in turn", 42, x.closed());
    }

    private static void newStoresHaveSize1() {
        for (int s = 5; s <= 10; s++) {
            SwitchNet x = new SwitchNet();
            due("weight(" + s + ")", 1, x.weight(s));
            int other = s == 10 ? 5 : s + 1;
            x.add(s, other, always(4));
            due("roots of two new stores", 1 << s | 1 << other, x.roots(s));
            x.size(other, 2);
            due("roots(" + s + ") beside size 2", 1 << other, x.roots(s));
        }
    }

    private static void newStoresHold2() {
        SwitchNet x = new SwitchNet();
        for (int s = 5; s <= 10; s++) {
            due("holds(" + s + ")", 2, x.holds(s));
            due("would(" + s + ")", 2, x.would(s));
        }
        due("unknowns()", 6, x.unknowns());
        due("settle()", 0, x.settle());
    }

    private static void newObjectsAreApart() {
        SwitchNet used = new SwitchNet();
        fill(used, 2);
        setAll(used, 7);
        used.size(5, 3);
        used.charge(5, 0);
        SwitchNet x = new SwitchNet();
        due("switches()", 0, x.switches());
        due("holds(2)", 0, x.holds(2));
        due("weight(5)", 1, x.weight(5));
        due("holds(5)", 2, x.holds(5));
        due("switches() of the used one", 4095, used.switches());
    }

    private static void addSameNodeTwice() {
        SwitchNet x = new SwitchNet();
        for (int n = 0; n <= 10; n++) {
            due("add(" + n + ", " + n + ", 2)", BAD, x.add(n, n, 2));
        }
        due("add(11, 11, 27), wrong in every way", BAD, x.add(11, 11, 27));
        due("switches()", 0, x.switches());
    }

    private static void addFromTooSmall() {
        SwitchNet x = new SwitchNet();
        for (int a : below(0)) {
            due("add(" + a + ", 5, 2)", BAD, x.add(a, 5, 2));
        }
        due("add(0, 5, 2)", 0, x.add(0, 5, 2));
        due("reach(0)", 33, x.reach(0));
    }

    private static void addFromTooLarge() {
        SwitchNet x = new SwitchNet();
        for (int a : above(10)) {
            due("add(" + a + ", 5, 2)", BAD, x.add(a, 5, 2));
        }
        due("add(10, 5, 2)", 0, x.add(10, 5, 2));
        due("reach(10)", 1056, x.reach(10));
    }

    private static void addToTooSmall() {
        SwitchNet x = new SwitchNet();
        for (int b : below(0)) {
            due("add(5, " + b + ", 2)", BAD, x.add(5, b, 2));
        }
        due("add(5, 0, 2)", 0, x.add(5, 0, 2));
        due("reach(0)", 33, x.reach(0));
    }

    private static void addToTooLarge() {
        SwitchNet x = new SwitchNet();
        for (int b : above(10)) {
            due("add(5, " + b + ", 2)", BAD, x.add(5, b, 2));
        }
        due("add(5, 10, 2)", 0, x.add(5, 10, 2));
        due("reach(10)", 1056, x.reach(10));
    }

    private static void addWhatTooSmall() {
        SwitchNet x = new SwitchNet();
        for (int what : below(0)) {
            due("add(1, 5, " + what + ")", BAD, x.add(1, 5, what));
        }
        due("add(1, 5, 0)", 0, x.add(1, 5, 0));
        due("closed() before input 2 is set", 0, x.closed());
        x.set(2, 1);
        due("closed()", 1, x.closed());
        due("weight(5)", 4, x.weight(5));
    }

    private static void addWhatTooLarge() {
        SwitchNet x = new SwitchNet();
        for (int what : above(26)) {
            due("add(1, 5, " + what + ")", BAD, x.add(1, 5, what));
        }
        due("add(1, 5, 26)", 0, x.add(1, 5, 26));
        due("closed()", 1, x.closed());
        due("weight(5)", 6, x.weight(5));
    }

    // The last of one strength, gate or kind and the first of the next one.
    private static void addWhatFromStepToStep() {
        int[] whats = {0, 1, 2, 3, 5, 6, 8, 9, 17, 18, 26};
        int[] kinds = {0, 1, 2, 0, 2, 0, 2, 0, 2, 0, 2};
        int[] gates = {2, 2, 2, 3, 3, 4, 4, 2, 4, 2, 4};
        int[] strengths = {4, 4, 4, 4, 4, 4, 4, 5, 5, 6, 6};
        for (int n = 0; n < whats.length; n++) {
            for (int inputs = 0; inputs < 8; inputs++) {
                SwitchNet x = new SwitchNet();
                x.add(1, 5, whats[n]);
                setAll(x, inputs);
                int atGate = inputs >> (gates[n] - 2) & 1;
                boolean shut = kinds[n] == 2 || atGate == 1 - kinds[n];
                String name = "what " + whats[n] + " with inputs " + inputs;
                due("closed(), " + name, shut ? 1 : 0, x.closed());
                due("weight(5), " + name, shut ? strengths[n] : 1, x.weight(5));
            }
        }
    }

    private static void addKind2WithAnyGate() {
        for (int what = 2; what < 27; what += 3) {
            SwitchNet x = new SwitchNet();
            x.add(1, 5, what);
            for (int inputs = 0; inputs < 8; inputs++) {
                setAll(x, inputs);
                due("closed(), what " + what + " inputs " + inputs, 1, x.closed());
                due("weight(5), what " + what + " inputs " + inputs, 4 + what / 9, x.weight(5));
                due("would(5), what " + what + " inputs " + inputs, 1, x.would(5));
            }
        }
    }

    private static void addBesideInputsAlone() {
        SwitchNet x = new SwitchNet();
        due("add(0, 1, 2)", 0, x.add(0, 1, 2));
        due("add(4, 0, 2)", 1, x.add(4, 0, 2));
        due("add of a second one between the same nodes", 2, x.add(0, 4, 2));
        due("closed()", 7, x.closed());
    }

    private static void addFullAtTwelve() {
        SwitchNet x = new SwitchNet();
        for (int k = 0; k < 12; k++) {
            due("add number " + k, k, x.add(k % 5, 5 + k % 6, k));
        }
        due("the 13th", FULL, x.add(5, 6, 0));
        due("the 14th", FULL, x.add(0, 10, 26));
        due("switches()", 4095, x.switches());
        due("remove(4)", true, x.remove(4));
        due("after one is away", 4, x.add(5, 6, 0));
        due("full again", FULL, x.add(5, 6, 0));
    }

    private static void addOpenSwitchesFillToo() {
        SwitchNet x = new SwitchNet();
        fill(x, 0);
        due("closed()", 0, x.closed());
        due("the 13th", FULL, x.add(5, 6, 2));
    }

    private static SwitchNet full() {
        SwitchNet x = new SwitchNet();
        fill(x, 2);
        return x;
    }

    private static void addSameNodeTwiceBeforeFull() {
        SwitchNet x = full();
        for (int n = 0; n <= 10; n++) {
            due("add(" + n + ", " + n + ", 2) when full", BAD, x.add(n, n, 2));
        }
    }

    private static void addWrongNodeBeforeFull() {
        SwitchNet x = full();
        due("add(-1, 5, 2) when full", BAD, x.add(-1, 5, 2));
        due("add(11, 5, 2) when full", BAD, x.add(11, 5, 2));
        due("add(5, -1, 2) when full", BAD, x.add(5, -1, 2));
        due("add(5, 11, 2) when full", BAD, x.add(5, 11, 2));
    }

    private static void addWrongWhatBeforeFull() {
        SwitchNet x = full();
        due("add(5, 6, -1) when full", BAD, x.add(5, 6, -1));
        due("add(5, 6, 27) when full", BAD, x.add(5, 6, 27));
        due("add(5, 6, 26) when full", FULL, x.add(5, 6, 26));
        due("add(5, 6, 0) when full", FULL, x.add(5, 6, 0));
    }

    private static void addLeastNumberOfSeveral() {
        SwitchNet x = full();
        for (int k : new int[] {11, 0, 7, 3}) {
            due("remove(" + k + ")", true, x.remove(k));
        }
        for (int k : new int[] {0, 3, 7, 11}) {
            due("add takes " + k, k, x.add(5, 6, 0));
        }
        due("full again", FULL, x.add(5, 6, 0));
    }

    private static void addLeastNumberWhenNotFull() {
        SwitchNet x = new SwitchNet();
        x.add(5, 6, 0);
        x.add(5, 6, 0);
        x.add(5, 6, 0);
        x.remove(1);
        due("add takes 1 before 3", 1, x.add(5, 6, 0));
        due("add takes 3", 3, x.add(5, 6, 0));
        x.remove(3);
        due("add takes 3 again", 3, x.add(5, 6, 0));
        x.remove(0);
        due("add takes 0", 0, x.add(5, 6, 0));
    }

    // A refused add takes no number.
    private static void addRefusedTakesNoNumber() {
        SwitchNet x = new SwitchNet();
        x.add(5, 5, 0);
        x.add(5, 11, 0);
        x.add(5, 6, 27);
        due("the first add that is not refused", 0, x.add(5, 6, 0));
    }

    // A number that is used again tells nothing of the switch that had it before.
    private static void addAgainUnderOneNumber() {
        for (int what = 0; what < 27; what++) {
            SwitchNet x = new SwitchNet();
            SwitchNet fresh = new SwitchNet();
            x.add(0, 10, 26 - what);
            x.remove(0);
            x.add(1, 5, what);
            fresh.add(1, 5, what);
            for (int inputs = 0; inputs < 8; inputs++) {
                setAll(x, inputs);
                setAll(fresh, inputs);
                due("closed(), what " + what + " inputs " + inputs, fresh.closed(), x.closed());
                due("weight(5), what " + what + " inputs " + inputs, fresh.weight(5), x.weight(5));
                due("weight(10), what " + what + " inputs " + inputs, 1, x.weight(10));
                due("reach(0), what " + what + " inputs " + inputs, 1, x.reach(0));
            }
        }
    }

    private static void removeWhenThereIsNone() {
        SwitchNet x = new SwitchNet();
        for (int k = 0; k < 12; k++) {
            due("remove(" + k + ") of a new object", false, x.remove(k));
        }
    }

    private static void removeTwice() {
        SwitchNet x = full();
        for (int k = 11; k >= 0; k--) {
            due("remove(" + k + ")", true, x.remove(k));
            due("remove(" + k + ") again", false, x.remove(k));
            due("switches()", (1 << k) - 1, x.switches());
        }
    }

    private static void removeNextAfterTheLast() {
        SwitchNet x = new SwitchNet();
        for (int k = 0; k < 11; k++) {
            x.add(5, 6, 2);
            due("remove(" + (k + 1) + ") of " + (k + 1), false, x.remove(k + 1));
        }
        due("switches()", 2047, x.switches());
    }

    private static void removeTooSmall() {
        SwitchNet x = full();
        for (int k = -1; k >= -64; k--) {
            due("remove(" + k + ")", false, x.remove(k));
        }
        for (int k : below(0)) {
            due("remove(" + k + ")", false, x.remove(k));
        }
        due("switches()", 4095, x.switches());
        due("remove(0)", true, x.remove(0));
    }

    private static void removeTooLarge() {
        SwitchNet x = full();
        for (int k = 12; k < 76; k++) {
            due("remove(" + k + ")", false, x.remove(k));
        }
        for (int k : above(11)) {
            due("remove(" + k + ")", false, x.remove(k));
        }
        due("switches()", 4095, x.switches());
        due("remove(11)", true, x.remove(11));
    }

    private static void removeTakesThatOneAlone() {
        for (int k = 0; k < 12; k++) {
            SwitchNet x = full();
            due("remove(" + k + ")", true, x.remove(k));
            due("switches()", 4095 - (1 << k), x.switches());
            due("closed()", 4095 - (1 << k), x.closed());
        }
    }

    // Stores keep what they hold when the switch that gave it to them is away.
    private static void removeSettlesNothing() {
        SwitchNet x = new SwitchNet();
        x.add(1, 5, 2);
        x.settle();
        x.add(0, 5, always(6));
        due("remove(0)", true, x.remove(0));
        due("holds(5)", 1, x.holds(5));
        due("would(5)", 0, x.would(5));
    }

    private static void setInputTooSmall() {
        SwitchNet x = new SwitchNet();
        for (int v = 0; v <= 1; v++) {
            due("set(0, " + v + ")", false, x.set(0, v));
            due("set(1, " + v + ")", false, x.set(1, v));
            for (int i : below(2)) {
                due("set(" + i + ", " + v + ")", false, x.set(i, v));
            }
        }
        due("holds(0)", 0, x.holds(0));
        due("holds(1)", 1, x.holds(1));
        due("set(2, 1)", true, x.set(2, 1));
        due("holds(2)", 1, x.holds(2));
    }

    private static void setInputTooLarge() {
        SwitchNet x = new SwitchNet();
        for (int v = 0; v <= 1; v++) {
            for (int i = 5; i <= 40; i++) {
                due("set(" + i + ", " + v + ")", false, x.set(i, v));
            }
            for (int i : above(4)) {
                due("set(" + i + ", " + v + ")", false, x.set(i, v));
            }
        }
        for (int n = 0; n <= 10; n++) {
            due("holds(" + n + ")", n == 1 ? 1 : n < 5 ? 0 : 2, x.holds(n));
        }
        due("set(4, 1)", true, x.set(4, 1));
        due("holds(4)", 1, x.holds(4));
    }

    private static void setValueTooSmall() {
        for (int i = 2; i <= 4; i++) {
            for (int held = 0; held <= 1; held++) {
                SwitchNet x = new SwitchNet();
                x.set(i, held);
                for (int v : below(0)) {
                    due("set(" + i + ", " + v + ")", false, x.set(i, v));
                    due("holds(" + i + ")", held, x.holds(i));
                }
                due("set(" + i + ", 0)", true, x.set(i, 0));
                due("holds(" + i + ")", 0, x.holds(i));
            }
        }
    }

    private static void setValueTooLarge() {
        for (int i = 2; i <= 4; i++) {
            for (int held = 0; held <= 1; held++) {
                SwitchNet x = new SwitchNet();
                x.set(i, held);
                for (int v : above(1)) {
                    due("set(" + i + ", " + v + ")", false, x.set(i, v));
                    due("holds(" + i + ")", held, x.holds(i));
                }
                due("set(" + i + ", 1)", true, x.set(i, 1));
                due("holds(" + i + ")", 1, x.holds(i));
            }
        }
    }

    private static void setToWhatItHolds() {
        for (int i = 2; i <= 4; i++) {
            SwitchNet x = new SwitchNet();
            for (int v : new int[] {0, 0, 1, 1, 0}) {
                due("set(" + i + ", " + v + ")", true, x.set(i, v));
                for (int n = 2; n <= 4; n++) {
                    due("holds(" + n + ")", n == i ? v : 0, x.holds(n));
                }
            }
        }
    }

    private static void setSettlesNothing() {
        SwitchNet x = new SwitchNet();
        x.add(2, 5, always(6));
        x.add(1, 6, what(0, 2, 6));
        due("set(2, 1)", true, x.set(2, 1));
        due("holds(5)", 2, x.holds(5));
        due("holds(6)", 2, x.holds(6));
        due("settle()", 2, x.settle());
        due("set(2, 0)", true, x.set(2, 0));
        due("holds(5)", 1, x.holds(5));
    }

    private static void sizeOfTooSmallAStore() {
        SwitchNet x = new SwitchNet();
        for (int n = 0; n <= 4; n++) {
            due("size(" + n + ", 3)", false, x.size(n, 3));
            due("weight(" + n + ")", 7, x.weight(n));
        }
        for (int s : below(5)) {
            due("size(" + s + ", 3)", false, x.size(s, 3));
        }
        due("weight(5)", 1, x.weight(5));
        due("size(5, 3)", true, x.size(5, 3));
        due("weight(5)", 3, x.weight(5));
    }

    private static void sizeOfTooLargeAStore() {
        SwitchNet x = new SwitchNet();
        for (int s : above(10)) {
            due("size(" + s + ", 3)", false, x.size(s, 3));
        }
        for (int s = 5; s <= 10; s++) {
            due("weight(" + s + ")", 1, x.weight(s));
        }
        due("size(10, 3)", true, x.size(10, 3));
        due("weight(10)", 3, x.weight(10));
    }

    private static void sizeTooSmall() {
        for (int s = 5; s <= 10; s++) {
            SwitchNet x = new SwitchNet();
            x.size(s, 2);
            for (int z : below(1)) {
                due("size(" + s + ", " + z + ")", false, x.size(s, z));
                due("weight(" + s + ")", 2, x.weight(s));
            }
            due("size(" + s + ", 1)", true, x.size(s, 1));
            due("weight(" + s + ")", 1, x.weight(s));
        }
    }

    private static void sizeTooLarge() {
        for (int s = 5; s <= 10; s++) {
            SwitchNet x = new SwitchNet();
            x.size(s, 2);
            for (int z : above(3)) {
                due("size(" + s + ", " + z + ")", false, x.size(s, z));
                due("weight(" + s + ")", 2, x.weight(s));
            }
            due("size(" + s + ", 3)", true, x.size(s, 3));
            due("weight(" + s + ")", 3, x.weight(s));
        }
    }

    private static void sizeOfThatStoreAlone() {
        for (int s = 5; s <= 10; s++) {
            SwitchNet x = new SwitchNet();
            x.charge(s, 1);
            due("size(" + s + ", 3)", true, x.size(s, 3));
            due("size(" + s + ", 3) again", true, x.size(s, 3));
            for (int n = 5; n <= 10; n++) {
                due("weight(" + n + ")", n == s ? 3 : 1, x.weight(n));
                due("holds(" + n + ")", n == s ? 1 : 2, x.holds(n));
            }
        }
    }

    private static void chargeOfTooSmallAStore() {
        SwitchNet x = new SwitchNet();
        for (int v = 0; v <= 2; v++) {
            for (int n = 0; n <= 4; n++) {
                due("charge(" + n + ", " + v + ")", false, x.charge(n, v));
                due("holds(" + n + ")", n == 1 ? 1 : 0, x.holds(n));
            }
            for (int s : below(5)) {
                due("charge(" + s + ", " + v + ")", false, x.charge(s, v));
            }
        }
        due("holds(5)", 2, x.holds(5));
        due("charge(5, 1)", true, x.charge(5, 1));
        due("holds(5)", 1, x.holds(5));
    }

    private static void chargeOfTooLargeAStore() {
        SwitchNet x = new SwitchNet();
        for (int v = 0; v <= 2; v++) {
            for (int s : above(10)) {
                due("charge(" + s + ", " + v + ")", false, x.charge(s, v));
            }
        }
        for (int n = 0; n <= 10; n++) {
            due("holds(" + n + ")", n == 1 ? 1 : n < 5 ? 0 : 2, x.holds(n));
        }
        due("charge(10, 1)", true, x.charge(10, 1));
        due("holds(10)", 1, x.holds(10));
    }

    private static void chargeTooSmall() {
        for (int s = 5; s <= 10; s++) {
            SwitchNet x = new SwitchNet();
            x.charge(s, 1);
            for (int v : below(0)) {
                due("charge(" + s + ", " + v + ")", false, x.charge(s, v));
                due("holds(" + s + ")", 1, x.holds(s));
            }
            due("charge(" + s + ", 0)", true, x.charge(s, 0));
            due("holds(" + s + ")", 0, x.holds(s));
        }
    }

    private static void chargeTooLarge() {
        for (int s = 5; s <= 10; s++) {
            SwitchNet x = new SwitchNet();
            x.charge(s, 1);
            for (int v : above(2)) {
                due("charge(" + s + ", " + v + ")", false, x.charge(s, v));
                due("holds(" + s + ")", 1, x.holds(s));
            }
            due("charge(" + s + ", 2)", true, x.charge(s, 2));
            due("holds(" + s + ")", 2, x.holds(s));
        }
    }

    private static void chargeOfThatStoreAlone() {
        for (int s = 5; s <= 10; s++) {
            SwitchNet x = new SwitchNet();
            x.add(s, s == 10 ? 5 : s + 1, always(6));
            for (int v : new int[] {0, 0, 1, 2}) {
                due("charge(" + s + ", " + v + ")", true, x.charge(s, v));
                for (int n = 5; n <= 10; n++) {
                    due("holds(" + n + ")", n == s ? v : 2, x.holds(n));
                }
            }
        }
    }

    private static void settleChangesNone() {
        SwitchNet x = new SwitchNet();
        due("settle() of a new object", 0, x.settle());
        for (int s = 5; s <= 10; s++) {
            x.charge(s, s % 3);
        }
        due("settle() without switches", 0, x.settle());
        for (int s = 5; s <= 10; s++) {
            due("holds(" + s + ")", s % 3, x.holds(s));
        }
    }

    private static void settleChangesAll() {
        for (int v = 0; v <= 1; v++) {
            SwitchNet x = new SwitchNet();
            for (int s = 5; s <= 10; s++) {
                x.add(v, s, 2);
            }
            due("settle()", 6, x.settle());
            due("settle() again", 0, x.settle());
            due("holds(5)", v, x.holds(5));
            due("holds(10)", v, x.holds(10));
        }
    }

    private static void settleCountsEachNumber() {
        for (int changed = 0; changed <= 6; changed++) {
            SwitchNet x = new SwitchNet();
            for (int s = 5; s <= 10; s++) {
                x.charge(s, s - 5 < changed ? 0 : 1);
                x.add(1, s, 2);
            }
            due("settle() with " + changed + " at 0", changed, x.settle());
        }
    }

    // Only what a store holds counts: not a drive that gives it what it held already.
    private static void settleCountsWhatIsOtherThen() {
        int[][] steps = {{0, 0, 0}, {0, 1, 1}, {1, 0, 1}, {1, 1, 0}, {2, 0, 1}, {2, 1, 1}};
        for (int[] step : steps) {
            SwitchNet x = new SwitchNet();
            x.charge(8, step[0]);
            x.add(step[1], 8, 2);
            due("settle() from " + step[0] + " to " + step[1], step[2], x.settle());
        }
        for (int held = 0; held <= 2; held++) {
            SwitchNet x = new SwitchNet();
            x.charge(8, held);
            x.add(0, 8, 2);
            x.add(1, 8, 2);
            due("settle() from " + held + " to 2", held == 2 ? 0 : 1, x.settle());
            due("holds(8)", 2, x.holds(8));
        }
    }

    private static void settleCountsStoresAlone() {
        SwitchNet x = new SwitchNet();
        for (int n = 0; n < 5; n++) {
            x.add(n, (n + 1) % 5, always(6));
        }
        setAll(x, 5);
        due("settle() between inputs", 0, x.settle());
        for (int n = 0; n < 5; n++) {
            due("holds(" + n + ")", n == 0 || n == 3 ? 0 : 1, x.holds(n));
        }
    }

    private static void settleOnceIsEnoughForALongWay() {
        SwitchNet x = new SwitchNet();
        for (int s = 10; s > 5; s--) {
            x.add(s, s - 1, 2);
        }
        x.add(0, 10, 2);
        due("settle()", 6, x.settle());
        for (int s = 5; s <= 10; s++) {
            due("holds(" + s + ")", 0, x.holds(s));
        }
    }

    private static void promise1() {
        check("1: No switches", BoundaryChangesTest::newHasNoSwitches);
        check("1: inputs 2, 3, 4 hold 0", BoundaryChangesTest::newInputsHold0);
        check("1: stores of size 1", BoundaryChangesTest::newStoresHaveSize1);
        check("1: stores hold 2", BoundaryChangesTest::newStoresHold2);
        check("1: a new object beside a used one", BoundaryChangesTest::newObjectsAreApart);
    }

    private static void promise2() {
        check("2: BAD when a = b", BoundaryChangesTest::addSameNodeTwice);
        check("2: BAD when a is not 0 .. 10, too small", BoundaryChangesTest::addFromTooSmall);
        check("2: BAD when a is not 0 .. 10, too large", BoundaryChangesTest::addFromTooLarge);
        check("2: BAD when b is not 0 .. 10, too small", BoundaryChangesTest::addToTooSmall);
        check("2: BAD when b is not 0 .. 10, too large", BoundaryChangesTest::addToTooLarge);
        check("2: BAD when what is not 0 .. 26, too small", BoundaryChangesTest::addWhatTooSmall);
        check("2: BAD when what is not 0 .. 26, too large", BoundaryChangesTest::addWhatTooLarge);
        check("2: what is kind + 3 * (gate - 2) + 9 * (strength - 4)", BoundaryChangesTest::addWhatFromStepToStep);
        check("2: for kind 2 the gate does not matter", BoundaryChangesTest::addKind2WithAnyGate);
        check("2: between the nodes a and b, two inputs", BoundaryChangesTest::addBesideInputsAlone);
        check("2: FULL when there are twelve", BoundaryChangesTest::addFullAtTwelve);
        check("2: FULL when there are twelve, all open", BoundaryChangesTest::addOpenSwitchesFillToo);
        check("2: in this order, a = b before FULL", BoundaryChangesTest::addSameNodeTwiceBeforeFull);
        check("2: in this order, a or b before FULL", BoundaryChangesTest::addWrongNodeBeforeFull);
        check("2: in this order, what before FULL", BoundaryChangesTest::addWrongWhatBeforeFull);
        check("2: the least number that none has, of several", BoundaryChangesTest::addLeastNumberOfSeveral);
        check("2: the least number that none has, not full", BoundaryChangesTest::addLeastNumberWhenNotFull);
        check("2: the least number that none has, after BAD", BoundaryChangesTest::addRefusedTakesNoNumber);
        check("2: the least number that none has, used again", BoundaryChangesTest::addAgainUnderOneNumber);
    }

    private static void promise3() {
        check("3: false when there is none, a new object", BoundaryChangesTest::removeWhenThereIsNone);
        check("3: false when there is none, twice", BoundaryChangesTest::removeTwice);
        check("3: false when there is none, the next one", BoundaryChangesTest::removeNextAfterTheLast);
        check("3: false when there is none, too small", BoundaryChangesTest::removeTooSmall);
        check("3: false when there is none, too large", BoundaryChangesTest::removeTooLarge);
        check("3: takes switch k away, no other", BoundaryChangesTest::removeTakesThatOneAlone);
        check("3: takes switch k away, nothing settles", BoundaryChangesTest::removeSettlesNothing);
    }

    private static void promise4() {
        check("4: false when i is not 2 .. 4, too small", BoundaryChangesTest::setInputTooSmall);
        check("4: false when i is not 2 .. 4, too large", BoundaryChangesTest::setInputTooLarge);
        check("4: false when v is not 0 or 1, too small", BoundaryChangesTest::setValueTooSmall);
        check("4: false when v is not 0 or 1, too large", BoundaryChangesTest::setValueTooLarge);
        check("4: answers true, what it holds already", BoundaryChangesTest::setToWhatItHolds);
        check("4: Nothing settles", BoundaryChangesTest::setSettlesNothing);
    }

    private static void promise5() {
        check("5: false when s is not 5 .. 10, too small", BoundaryChangesTest::sizeOfTooSmallAStore);
        check("5: false when s is not 5 .. 10, too large", BoundaryChangesTest::sizeOfTooLargeAStore);
        check("5: false when z is not 1 .. 3, too small", BoundaryChangesTest::sizeTooSmall);
        check("5: false when z is not 1 .. 3, too large", BoundaryChangesTest::sizeTooLarge);
        check("5: gives store s the size z, no other", BoundaryChangesTest::sizeOfThatStoreAlone);
    }

    private static void promise6() {
        check("6: false when s is not 5 .. 10, too small", BoundaryChangesTest::chargeOfTooSmallAStore);
        check("6: false when s is not 5 .. 10, too large", BoundaryChangesTest::chargeOfTooLargeAStore);
        check("6: false when v is not 0 .. 2, too small", BoundaryChangesTest::chargeTooSmall);
        check("6: false when v is not 0 .. 2, too large", BoundaryChangesTest::chargeTooLarge);
        check("6: lets store s hold v, no other", BoundaryChangesTest::chargeOfThatStoreAlone);
    }

    private static void promise7() {
        check("7: the number of stores, none", BoundaryChangesTest::settleChangesNone);
        check("7: the number of stores, all", BoundaryChangesTest::settleChangesAll);
        check("7: the number of stores, each from 0 to 6", BoundaryChangesTest::settleCountsEachNumber);
        check("7: that hold something else then", BoundaryChangesTest::settleCountsWhatIsOtherThen);
        check("7: stores, not inputs", BoundaryChangesTest::settleCountsStoresAlone);
        check("7: settles once, a long way", BoundaryChangesTest::settleOnceIsEnoughForALongWay);
    }

    public static void main(String[] args) {
        promise1();
        promise2();
        promise3();
        promise4();
        promise5();
        promise6();
        promise7();
        finish();
    }
}
