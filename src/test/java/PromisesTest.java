// One method for each promise: ordinary inputs, the edges that the document names, wrong inputs.
public final class PromisesTest extends Checks {
    private static final int[] NOT_NODES = {-1, 11, 12, 32, 37, -27, LOW, HIGH};
    private static final int[] NOT_STORES = {-1, 0, 1, 2, 3, 4, 11, 12, 37, LOW, HIGH};

    // Everything that can be seen without changing the object.
    private static String face(SwitchNet x) {
        StringBuilder seen = new StringBuilder();
        for (int n = 0; n <= 10; n++) {
            seen.append(x.holds(n)).append(' ').append(x.would(n)).append(' ').append(x.weight(n)).append(' ');
            seen.append(x.roots(n)).append(' ').append(x.reach(n)).append('\n');
        }
        seen.append(x.closed()).append(' ').append(x.switches()).append(' ');
        seen.append(x.shorted()).append(' ').append(x.unknowns());
        return seen.toString();
    }

    private static void same(String what, String before, SwitchNet x) {
        due(what + " left the object as it was:", true, before.equals(face(x)));
    }

    private static void promise1NewObject() {
        SwitchNet x = new SwitchNet();
        due("new: switches()", 0, x.switches());
        due("new: closed()", 0, x.closed());
        int[] held = {0, 1, 0, 0, 0, 2, 2, 2, 2, 2, 2};
        for (int n = 0; n <= 10; n++) {
            due("new: holds " + n, held[n], x.holds(n));
            due("new: weight " + n, n < 5 ? 7 : 1, x.weight(n));
            due("new: roots " + n, 1 << n, x.roots(n));
            due("new: reach " + n, 1 << n, x.reach(n));
        }
        due("new: unknowns()", 6, x.unknowns());
        due("new: shorted()", false, x.shorted());
        SwitchNet y = new SwitchNet();
        y.add(1, 5, always(4));
        y.set(2, 1);
        due("another object's switches()", 0, x.switches());
        due("another object's holds(2)", 0, x.holds(2));
    }

    private static void promise2AddNumbers() {
        SwitchNet x = new SwitchNet();
        for (int k = 0; k < 12; k++) {
            due("add number " + k, k, x.add(k % 11, (k + 1) % 11, k));
        }
        due("add the 13th", FULL, x.add(0, 5, 0));
        due("add the 13th, BAD comes first, a = b", BAD, x.add(5, 5, 0));
        due("add the 13th, BAD comes first, node", BAD, x.add(5, 11, 0));
        due("add the 13th, BAD comes first, what", BAD, x.add(5, 6, 27));
        x.remove(7);
        x.remove(3);
        due("add takes the least number", 3, x.add(5, 6, 0));
        due("add takes the next number", 7, x.add(5, 6, 0));
        due("add is full again", FULL, x.add(5, 6, 0));
    }

    private static void promise2AddDecodes() {
        for (int kind = 0; kind < 3; kind++) {
            for (int gate = 2; gate <= 4; gate++) {
                for (int strength = 4; strength <= 6; strength++) {
                    for (int inputs = 0; inputs < 8; inputs++) {
                        checkDecoded(kind, gate, strength, inputs);
                    }
                }
            }
        }
    }

    private static void checkDecoded(int kind, int gate, int strength, int inputs) {
        SwitchNet x = new SwitchNet();
        String name = "kind " + kind + " gate " + gate + " strength " + strength + " inputs " + inputs;
        due(name + " add", 0, x.add(10, 1, what(kind, gate, strength)));
        setAll(x, inputs);
        int atGate = inputs >> (gate - 2) & 1;
        boolean shut = kind == 2 || (kind == 0 ? atGate == 1 : atGate == 0);
        due(name + " closed", shut ? 1 : 0, x.closed());
        due(name + " weight", shut ? strength : 1, x.weight(10));
        due(name + " would", shut ? 1 : 2, x.would(10));
    }

    private static void promise2AddRefuses() {
        SwitchNet x = new SwitchNet();
        for (int n = 0; n <= 10; n++) {
            due("add a = b = " + n, BAD, x.add(n, n, 2));
        }
        for (int n : NOT_NODES) {
            due("add from " + n, BAD, x.add(n, 5, 2));
            due("add to " + n, BAD, x.add(5, n, 2));
        }
        for (int what : new int[] {-1, 27, LOW, HIGH}) {
            due("add what " + what, BAD, x.add(5, 6, what));
        }
        due("after refused adds", 0, x.switches());
        due("add what 26", 0, x.add(0, 10, 26));
        due("add what 0", 1, x.add(10, 0, 0));
    }

    private static void promise3Remove() {
        SwitchNet x = new SwitchNet();
        due("remove from none", false, x.remove(0));
        x.add(1, 5, always(6));
        x.add(0, 6, always(5));
        due("remove 2 of 0 and 1", false, x.remove(2));
        due("remove 0", true, x.remove(0));
        due("remove 0 again", false, x.remove(0));
        due("switches after remove", 2, x.switches());
        due("closed after remove", 2, x.closed());
        due("weight after remove", 1, x.weight(5));
        due("the other stays", 0, x.would(6));
        for (int k : new int[] {-1, 12, 31, 32, 33, -31, LOW, HIGH}) {
            due("remove " + k, false, x.remove(k));
        }
        due("switches after wrong removes", 2, x.switches());
        due("remove 1", true, x.remove(1));
        due("switches after all", 0, x.switches());
        for (int k = 0; k < 12; k++) {
            x.add(5, 6, 0);
        }
        due("remove 11", true, x.remove(11));
        due("switches without 11", 2047, x.switches());
    }

    private static void promise4Set() {
        SwitchNet x = new SwitchNet();
        x.add(2, 5, always(6));
        for (int i = 2; i <= 4; i++) {
            due("set on " + i, true, x.set(i, 1));
            due("holds after set on " + i, 1, x.holds(i));
            due("set on again " + i, true, x.set(i, 1));
            due("holds after second set on " + i, 1, x.holds(i));
        }
        due("set 3 off", true, x.set(3, 0));
        due("3 is off", 0, x.holds(3));
        due("2 stays on", 1, x.holds(2));
        due("4 stays on", 1, x.holds(4));
        due("set settles nothing", 2, x.holds(5));
        String before = face(x);
        for (int i : new int[] {-1, 0, 1, 5, 10, 11, 34, -30, LOW, HIGH}) {
            due("set input " + i + " to 0", false, x.set(i, 0));
            due("set input " + i + " to 1", false, x.set(i, 1));
        }
        for (int v : new int[] {-1, 2, 3, LOW, HIGH}) {
            due("set 2 to " + v, false, x.set(2, v));
            due("set 4 to " + v, false, x.set(4, v));
        }
        same("wrong set", before, x);
    }

    private static void promise5Size() {
        SwitchNet x = new SwitchNet();
        for (int s = 5; s <= 10; s++) {
            for (int z = 3; z >= 1; z--) {
                due("size " + s + " to " + z, true, x.size(s, z));
                due("weight of " + s, z, x.weight(s));
            }
        }
        x.size(6, 3);
        due("the neighbour keeps its size", 1, x.weight(5));
        String before = face(x);
        for (int s : NOT_STORES) {
            due("size of " + s, false, x.size(s, 2));
        }
        for (int z : new int[] {0, 4, -1, LOW, HIGH}) {
            due("size 5 to " + z, false, x.size(5, z));
        }
        same("wrong size", before, x);
    }

    private static void promise6Charge() {
        SwitchNet x = new SwitchNet();
        for (int s = 5; s <= 10; s++) {
            for (int v = 0; v <= 2; v++) {
                due("charge " + s + " with " + v, true, x.charge(s, v));
                due("holds " + s, v, x.holds(s));
            }
        }
        x.charge(5, 0);
        x.charge(10, 1);
        String before = face(x);
        for (int s : NOT_STORES) {
            due("charge of " + s, false, x.charge(s, 1));
        }
        for (int v : new int[] {-1, 3, 4, LOW, HIGH}) {
            due("charge 5 with " + v, false, x.charge(5, v));
        }
        same("wrong charge", before, x);
    }

    private static void promise7Settle() {
        SwitchNet x = new SwitchNet();
        due("settle with nothing", 0, x.settle());
        x.charge(5, 0);
        x.charge(6, 1);
        x.add(5, 6, always(4));
        due("two equal stores disagree", 2, x.settle());
        due("both are unknown: 5", 2, x.holds(5));
        due("both are unknown: 6", 2, x.holds(6));
        due("settle again", 0, x.settle());
        x.add(1, 6, always(4));
        due("an input drives both", 2, x.settle());
        due("driven 5", 1, x.holds(5));
        x.remove(1);
        due("the charge stays", 0, x.settle());
        due("kept 6", 1, x.holds(6));
        x.charge(6, 0);
        x.size(6, 2);
        due("the greater store wins", 1, x.settle());
        due("won 5", 0, x.holds(5));
    }

    // Store 5 goes to 2 itself while it is the root of the others: what it held before counts.
    private static void promise7AllAtOnce() {
        for (int from = 5; from <= 10; from++) {
            SwitchNet x = new SwitchNet();
            for (int s = 5; s <= 10; s++) {
                x.charge(s, s == from ? 1 : 0);
                if (s != 10) {
                    x.add(s, s + 1, always(5));
                }
            }
            due("one store of six differs", 6, x.settle());
            due("all unknown", 6, x.unknowns());
        }
    }

    private static void promise8Holds() {
        SwitchNet x = new SwitchNet();
        for (int n : NOT_NODES) {
            due("holds " + n, BAD, x.holds(n));
        }
        x.add(0, 1, always(6));
        x.add(1, 2, always(6));
        x.add(1, 10, always(6));
        x.settle();
        due("node 0 holds 0 always", 0, x.holds(0));
        due("node 1 holds 1 always", 1, x.holds(1));
        due("a joined input keeps its value", 0, x.holds(2));
        due("a settled store", 1, x.holds(10));
        due("a store left alone", 2, x.holds(9));
    }

    private static void promise9Would() {
        SwitchNet x = new SwitchNet();
        for (int n : NOT_NODES) {
            due("would " + n, BAD, x.would(n));
        }
        x.add(1, 5, always(4));
        x.add(0, 6, always(5));
        x.add(5, 6, what(0, 3, 6));
        due("would 5 apart", 1, x.would(5));
        due("would 6 apart", 0, x.would(6));
        x.set(3, 1);
        due("would 5 joined: strength 5 beats 4", 0, x.would(5));
        due("would 6 joined", 0, x.would(6));
        due("would changes nothing", 2, x.holds(5));
        x.set(4, 1);
        int[] inputs = {0, 1, 0, 1, 1};
        for (int n = 0; n < 5; n++) {
            due("would of input " + n, inputs[n], x.would(n));
        }
        x.add(1, 6, always(5));
        due("equal drives disagree", 2, x.would(6));
        x.charge(8, 2);
        x.charge(9, 1);
        x.add(8, 9, always(4));
        due("an unknown root makes it unknown", 2, x.would(9));
    }

    private static void promise10Weight() {
        SwitchNet x = new SwitchNet();
        for (int n : NOT_NODES) {
            due("weight " + n, BAD, x.weight(n));
        }
        x.add(0, 5, always(4));
        due("one switch of strength 4", 4, x.weight(5));
        x.add(5, 0, always(6));
        due("of several the strongest", 6, x.weight(5));
        x.add(5, 6, always(5));
        x.add(6, 7, always(6));
        due("the least on the way", 5, x.weight(7));
        x.add(8, 9, always(6));
        x.size(8, 3);
        due("a store's size bounds the way", 3, x.weight(9));
        x.size(9, 2);
        due("the greater root counts", 3, x.weight(9));
        due("a greater store is not lowered", 3, x.weight(8));
        for (int n = 0; n < 5; n++) {
            due("weight of input " + n, 7, x.weight(n));
        }
    }

    // A way may not come through an input, however strong the switches are there.
    private static void promise10NoWayThroughInputs() {
        SwitchNet x = new SwitchNet();
        x.size(5, 3);
        x.add(5, 2, always(6));
        x.add(2, 6, always(4));
        due("weight beyond an input", 4, x.weight(6));
        due("roots beyond an input", 4, x.roots(6));
        due("an input is its own root alone", 4, x.roots(2));
        due("reach ends before an input", 32, x.reach(5));
        x.add(1, 2, always(6));
        due("an input's root through an input", 4, x.roots(6));
        due("reach of an input beside an input", 2, x.reach(1));
    }

    private static void promise11Roots() {
        SwitchNet x = new SwitchNet();
        for (int n : NOT_NODES) {
            due("roots " + n, BAD, x.roots(n));
        }
        x.add(5, 6, always(4));
        x.add(6, 7, always(4));
        due("equal stores", 224, x.roots(6));
        x.size(5, 2);
        due("the greater store alone", 32, x.roots(7));
        due("the greater store itself", 32, x.roots(5));
        x.add(1, 7, always(5));
        x.add(0, 5, always(5));
        due("each its nearer input: 5", 1, x.roots(5));
        due("both inputs between", 3, x.roots(6));
        due("each its nearer input: 7", 2, x.roots(7));
        for (int n = 0; n < 5; n++) {
            due("roots of input " + n, 1 << n, x.roots(n));
        }
    }

    // The way from 1 by 5 to 6 has the weight of 6, but not the weight of 5 when it is there.
    private static void promise11BlockedOnTheWay() {
        SwitchNet x = new SwitchNet();
        x.add(1, 5, always(4));
        x.add(0, 5, always(6));
        x.add(5, 6, always(4));
        due("a way that is overcome at 5", 1, x.roots(5));
        due("goes no further than 5", 1, x.roots(6));
        due("weight beyond", 4, x.weight(6));
        due("would beyond", 0, x.would(6));
        SwitchNet y = new SwitchNet();
        y.size(6, 3);
        y.add(5, 6, always(4));
        y.add(5, 7, always(4));
        due("a root that is overcome is none", 64, y.roots(7));
    }

    private static void promise12Closed() {
        SwitchNet x = new SwitchNet();
        for (int k = 0; k < 12; k++) {
            x.add(5, 6, k % 9);
        }
        for (int inputs = 0; inputs < 8; inputs++) {
            setAll(x, inputs);
            int want = 0;
            for (int k = 0; k < 12; k++) {
                int atGate = inputs >> (k % 9 / 3) & 1;
                int kind = k % 3;
                if (kind == 2 || kind == 0 && atGate == 1 || kind == 1 && atGate == 0) {
                    want |= 1 << k;
                }
            }
            due("closed with inputs " + inputs, want, x.closed());
        }
        x.remove(2);
        due("a switch taken away is not closed", 0, x.closed() & 4);
    }

    private static void promise13Switches() {
        SwitchNet x = new SwitchNet();
        int want = 0;
        for (int k = 0; k < 12; k++) {
            x.add(3, 10, 0);
            want |= 1 << k;
            due("switches after " + k, want, x.switches());
        }
        due("none of them is closed", 0, x.closed());
        x.remove(0);
        x.remove(5);
        due("switches without 0 and 5", 4095 - 33, x.switches());
    }

    private static void promise14Shorted() {
        SwitchNet x = new SwitchNet();
        x.add(0, 5, always(4));
        x.add(5, 10, what(0, 4, 6));
        x.add(10, 1, always(4));
        due("the middle is open", false, x.shorted());
        x.set(4, 1);
        due("a short through two stores", true, x.shorted());
        x.remove(2);
        due("no short to a store", false, x.shorted());
        x.add(2, 10, always(4));
        due("two inputs of the same value", false, x.shorted());
        x.set(2, 1);
        due("two inputs of different values", true, x.shorted());
        SwitchNet y = new SwitchNet();
        y.charge(5, 1);
        y.add(0, 5, always(4));
        due("a store that holds 1 is no input", false, y.shorted());
        y.add(1, 0, what(1, 2, 4));
        due("0 and 1 at once", true, y.shorted());
        y.set(2, 1);
        due("0 and 1 apart", false, y.shorted());
        shortedAwayFromNodeZero();
    }

    private static void shortedAwayFromNodeZero() {
        for (int low = 2; low <= 4; low++) {
            SwitchNet x = new SwitchNet();
            int high = low == 4 ? 2 : low + 1;
            x.add(high, 8, always(4));
            x.add(8, low, always(4));
            due("both hold 0: " + low, false, x.shorted());
            x.set(high, 1);
            due("only " + high + " holds 1", true, x.shorted());
            x.set(low, 1);
            due("both hold 1: " + low, false, x.shorted());
        }
    }

    private static void promise15Reach() {
        SwitchNet x = new SwitchNet();
        for (int n : NOT_NODES) {
            due("reach " + n, BAD, x.reach(n));
        }
        for (int s = 10; s > 5; s--) {
            x.add(s, s - 1, always(4));
        }
        due("reach along all stores", 2016, x.reach(10));
        due("reach back along all stores", 2016, x.reach(5));
        x.add(0, 7, always(4));
        x.add(3, 8, always(4));
        due("reach of an input", 2017, x.reach(0));
        due("reach of another input", 2024, x.reach(3));
        due("inputs are not reached", 2016, x.reach(7));
        x.size(8, 3);
        due("weights do not matter", 2016, x.reach(5));
        x.remove(2);
        due("reach up to a gap", 1792, x.reach(10));
        due("reach from the other side", 224, x.reach(7));
    }

    private static void promise16Unknowns() {
        SwitchNet x = new SwitchNet();
        due("all unknown", 6, x.unknowns());
        for (int s = 5; s <= 10; s++) {
            x.charge(s, s % 2);
        }
        due("none unknown", 0, x.unknowns());
        x.add(5, 6, what(0, 2, 4));
        due("an open switch", 0, x.unknowns());
        x.set(2, 1);
        due("a closed switch", 2, x.unknowns());
        due("nothing settled", 1, x.holds(5));
        x.charge(10, 2);
        x.add(1, 10, always(4));
        due("what they would hold, not what they hold", 2, x.unknowns());
    }

    private static void promise17InputsFor() {
        for (int wanted = 0; wanted < 8; wanted++) {
            SwitchNet x = new SwitchNet();
            x.add(1, 5, kindFor(wanted, 2));
            x.add(5, 6, kindFor(wanted, 3));
            x.add(6, 7, kindFor(wanted, 4));
            x.set(3, 1);
            String before = face(x);
            due("only the inputs " + wanted, wanted, x.inputsFor(7, 1));
            due("none lets 7 hold 0", BAD, x.inputsFor(7, 0));
            due("the least that leaves it", wanted == 0 ? 1 : 0, x.inputsFor(7, 2));
            same("inputsFor", before, x);
        }
        SwitchNet y = new SwitchNet();
        y.add(4, 5, always(4));
        due("an input's own value", 4, y.inputsFor(5, 1));
        y.set(4, 1);
        due("the present value does not matter", 0, y.inputsFor(5, 0));
        y.charge(6, 1);
        due("what the stores hold now", 0, y.inputsFor(6, 1));
        due("they don't hold it", BAD, y.inputsFor(6, 2));
        for (int s : NOT_STORES) {
            for (int v = 0; v <= 2; v++) {
                due("inputsFor " + s, BAD, y.inputsFor(s, v));
            }
        }
        for (int v : new int[] {-1, 3, LOW, HIGH}) {
            due("inputsFor 5 with " + v, BAD, y.inputsFor(5, v));
        }
    }

    private static int kindFor(int wanted, int gate) {
        boolean on = (wanted >> (gate - 2) & 1) == 1;
        return what(on ? 0 : 1, gate, 4);
    }

    private static void promise18RefusedChangesNothing() {
        SwitchNet x = new SwitchNet();
        for (int k = 0; k < 12; k++) {
            x.add(k % 11, (3 * k + 5) % 11 == k % 11 ? (k + 1) % 11 : (3 * k + 5) % 11, 2 * k);
        }
        x.charge(7, 1);
        x.size(8, 2);
        x.set(3, 1);
        String before = face(x);
        x.add(5, 6, 2);
        same("add when full", before, x);
        x.add(5, 5, 2);
        x.add(11, 5, 2);
        x.add(5, -1, 2);
        x.add(5, 6, 27);
        same("add when bad", before, x);
        x.remove(12);
        x.remove(-1);
        same("remove", before, x);
        x.set(5, 1);
        x.set(2, 2);
        same("set", before, x);
        x.size(4, 2);
        x.size(5, 0);
        same("size", before, x);
        x.charge(4, 1);
        x.charge(5, 3);
        same("charge", before, x);
        x.inputsFor(5, 3);
        x.inputsFor(4, 0);
        same("inputsFor", before, x);
    }

    public static void main(String[] args) {
        check("1: new object", PromisesTest::promise1NewObject);
        check("2: add numbers", PromisesTest::promise2AddNumbers);
        check("2: add decodes", PromisesTest::promise2AddDecodes);
        check("2: add refuses", PromisesTest::promise2AddRefuses);
        check("3: remove", PromisesTest::promise3Remove);
        check("4: set", PromisesTest::promise4Set);
        check("5: size", PromisesTest::promise5Size);
        check("6: charge", PromisesTest::promise6Charge);
        check("7: settle", PromisesTest::promise7Settle);
        check("7: all at once", PromisesTest::promise7AllAtOnce);
        check("8: holds", PromisesTest::promise8Holds);
        check("9: would", PromisesTest::promise9Would);
        check("10: weight", PromisesTest::promise10Weight);
        check("10: no way through inputs", PromisesTest::promise10NoWayThroughInputs);
        check("11: roots", PromisesTest::promise11Roots);
        check("11: blocked on the way", PromisesTest::promise11BlockedOnTheWay);
        check("12: closed", PromisesTest::promise12Closed);
        check("13: switches", PromisesTest::promise13Switches);
        check("14: shorted", PromisesTest::promise14Shorted);
        check("15: reach", PromisesTest::promise15Reach);
        check("16: unknowns", PromisesTest::promise16Unknowns);
        check("17: inputs for", PromisesTest::promise17InputsFor);
        check("18: refused changes nothing", PromisesTest::promise18RefusedChangesNothing);
        finish();
    }
}
