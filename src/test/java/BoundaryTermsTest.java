// A case for each sentence of "What it is" and "Terms" that names a boundary.
public final class BoundaryTermsTest extends Checks {
    private static void call512IsAnswered() {
        SwitchNet adds = new SwitchNet();
        SwitchNet settles = new SwitchNet();
        settles.add(1, 5, always(4));
        for (int n = 1; n <= 255; n++) {
            due("add, pair " + n, 0, adds.add(1, 5, always(4)));
            due("remove, pair " + n, true, adds.remove(0));
            due("charge, pair " + n, true, settles.charge(5, 0));
            due("settle, pair " + n, 1, settles.settle());
        }
        due("call 511: add", 0, adds.add(1, 5, always(4)));
        due("call 512: would", 1, adds.would(5));
        due("call 512: holds", 1, settles.holds(5));
    }

    private static void call512OfOneName() {
        SwitchNet x = new SwitchNet();
        for (int n = 1; n <= 512; n++) {
            due("settle, call " + n, 0, x.settle());
        }
        SwitchNet y = new SwitchNet();
        for (int n = 1; n <= 512; n++) {
            due("inputsFor, call " + n, 0, y.inputsFor(10, 2));
        }
    }

    // A call that is refused is a call too, and wears nothing out.
    private static void call512AfterRefusedOnes() {
        SwitchNet x = new SwitchNet();
        for (int n = 1; n <= 511; n++) {
            due("refused add, call " + n, BAD, x.add(5, 5, 0));
        }
        due("add, call 512", 0, x.add(5, 6, 0));
        SwitchNet y = new SwitchNet();
        fill(y, 2);
        for (int n = 13; n <= 511; n++) {
            due("full add, call " + n, FULL, y.add(5, 6, 0));
        }
        due("switches, call 512", 4095, y.switches());
    }

    // What later calls answer is free, but LANGUAGE.md lets none of them throw.
    private static void laterCallsDoNotThrow() {
        SwitchNet x = new SwitchNet();
        for (int n = 1; n <= 2000; n++) {
            x.add(n % 11, (n + 3) % 11, n % 27);
            x.settle();
            x.inputsFor(5 + n % 6, n % 3);
            x.remove(n % 12);
        }
    }

    private static void nodes0And1AreFixed() {
        SwitchNet x = new SwitchNet();
        x.add(0, 1, always(6));
        x.add(1, 0, always(6));
        due("set(0, 1)", false, x.set(0, 1));
        due("set(1, 0)", false, x.set(1, 0));
        due("charge(0, 1)", false, x.charge(0, 1));
        due("charge(1, 0)", false, x.charge(1, 0));
        due("settle()", 0, x.settle());
        due("holds(0)", 0, x.holds(0));
        due("holds(1)", 1, x.holds(1));
        due("would(0)", 0, x.would(0));
        due("would(1)", 1, x.would(1));
    }

    private static void settableInputsHoldWhatTheyAreSetTo() {
        for (int i = 2; i <= 4; i++) {
            for (int v = 0; v <= 1; v++) {
                SwitchNet x = new SwitchNet();
                x.set(i, v);
                x.add(1 - v, i, always(6));
                due("settle() beside input " + i, 0, x.settle());
                due("holds(" + i + ")", v, x.holds(i));
                due("would(" + i + ")", v, x.would(i));
            }
        }
    }

    private static void storesBeginAtNode5AndEndAtNode10() {
        SwitchNet x = new SwitchNet();
        due("charge(4, 1)", false, x.charge(4, 1));
        due("charge(5, 1)", true, x.charge(5, 1));
        due("charge(10, 1)", true, x.charge(10, 1));
        due("charge(11, 1)", false, x.charge(11, 1));
        due("weight(4)", 7, x.weight(4));
        due("weight(5)", 1, x.weight(5));
        due("weight(10)", 1, x.weight(10));
        due("weight(11)", BAD, x.weight(11));
    }

    private static void twelveSwitchesNumbered0To11() {
        SwitchNet x = new SwitchNet();
        fill(x, 2);
        due("a thirteenth", FULL, x.add(5, 6, 2));
        due("switches()", 4095, x.switches());
        due("remove(12)", false, x.remove(12));
        due("remove(11)", true, x.remove(11));
    }

    // The only closed one of twelve, whichever it is, counts everywhere.
    private static void eachOfTheTwelveCounts() {
        for (int only = 0; only < 12; only++) {
            SwitchNet x = new SwitchNet();
            SwitchNet y = new SwitchNet();
            for (int k = 0; k < 12; k++) {
                x.add(1, 10, k == only ? always(5) : what(0, 2, 6));
                y.add(0, 1, k == only ? always(5) : what(0, 2, 6));
            }
            due("closed()", 1 << only, x.closed());
            due("weight(10)", 5, x.weight(10));
            due("roots(10)", 2, x.roots(10));
            due("reach(1)", 1026, x.reach(1));
            due("would(10)", 1, x.would(10));
            due("unknowns()", 5, x.unknowns());
            due("inputsFor(10, 1)", 0, x.inputsFor(10, 1));
            due("settle()", 1, x.settle());
            due("shorted()", true, y.shorted());
            y.remove(only);
            due("shorted() without it", false, y.shorted());
        }
    }

    private static void strengths4To6() {
        for (int strength = 4; strength <= 6; strength++) {
            for (int from = 0; from <= 4; from++) {
                SwitchNet x = new SwitchNet();
                x.add(from, 9, always(strength));
                due("weight from input " + from, strength, x.weight(9));
            }
        }
    }

    // The greatest size is less than the least strength: a store never stands against an input.
    private static void greatestSizeBeneathLeastStrength() {
        SwitchNet x = new SwitchNet();
        x.size(5, 3);
        x.charge(5, 1);
        x.add(0, 5, always(4));
        due("weight(5)", 4, x.weight(5));
        due("roots(5)", 1, x.roots(5));
        due("would(5)", 0, x.would(5));
    }

    private static void kind0ClosedAt1() {
        for (int gate = 2; gate <= 4; gate++) {
            SwitchNet x = new SwitchNet();
            x.add(5, 6, what(0, gate, 4));
            setAll(x, 7 - (1 << (gate - 2)));
            due("closed(), only its gate " + gate + " at 0", 0, x.closed());
            setAll(x, 1 << (gate - 2));
            due("closed(), only its gate " + gate + " at 1", 1, x.closed());
        }
    }

    private static void kind1ClosedAt0() {
        for (int gate = 2; gate <= 4; gate++) {
            SwitchNet x = new SwitchNet();
            x.add(5, 6, what(1, gate, 4));
            setAll(x, 7 - (1 << (gate - 2)));
            due("closed(), only its gate " + gate + " at 0", 1, x.closed());
            setAll(x, 1 << (gate - 2));
            due("closed(), only its gate " + gate + " at 1", 0, x.closed());
        }
    }

    private static void kind2AlwaysClosed() {
        for (int inputs = 0; inputs < 8; inputs++) {
            SwitchNet x = new SwitchNet();
            for (int gate = 2; gate <= 4; gate++) {
                x.add(5, 6, what(2, gate, 4));
            }
            setAll(x, inputs);
            due("closed() with inputs " + inputs, 7, x.closed());
        }
    }

    // An open switch between the same nodes does not count, however strong.
    private static void strongestOfSeveralClosedOnes() {
        SwitchNet x = new SwitchNet();
        x.add(1, 5, what(0, 2, 6));
        x.add(5, 1, always(5));
        x.add(1, 5, always(4));
        due("weight(5), the strongest is open", 5, x.weight(5));
        x.set(2, 1);
        due("weight(5), all are closed", 6, x.weight(5));
        due("roots(5)", 2, x.roots(5));
    }

    private static void strongestInAnyOrder() {
        int[][] orders = {{4, 5, 6}, {4, 6, 5}, {5, 4, 6}, {5, 6, 4}, {6, 4, 5}, {6, 5, 4}};
        for (int[] order : orders) {
            SwitchNet x = new SwitchNet();
            x.add(0, 5, always(5));
            for (int strength : order) {
                x.add(1, 6, always(strength));
                x.add(6, 5, always(strength));
            }
            due("weight(6)", 6, x.weight(6));
            due("weight(5)", 6, x.weight(5));
            due("roots(5)", 2, x.roots(5));
        }
    }

    // The stores are of one size: a closed switch would make each a root of the other.
    private static void openSwitchJoinsNothing() {
        for (int kind = 0; kind <= 1; kind++) {
            SwitchNet x = new SwitchNet();
            x.set(3, kind);
            x.charge(5, 0);
            x.charge(6, 1);
            x.add(5, 6, what(kind, 3, 6));
            x.add(0, 1, what(kind, 3, 6));
            x.add(1, 5, what(kind, 3, 6));
            due("weight(5)", 1, x.weight(5));
            due("roots(5)", 32, x.roots(5));
            due("roots(6)", 64, x.roots(6));
            due("reach(1)", 2, x.reach(1));
            due("reach(5)", 32, x.reach(5));
            due("would(5)", 0, x.would(5));
            due("would(6)", 1, x.would(6));
            due("shorted()", false, x.shorted());
            due("settle()", 0, x.settle());
        }
    }

    // A weaker switch beside the strongest would let the root 0 tie at store 6.
    private static void weakerOneBesideMakesNoWayOfItsOwn() {
        SwitchNet x = new SwitchNet();
        x.add(0, 5, always(6));
        x.add(5, 6, always(6));
        x.add(5, 6, always(4));
        x.add(1, 6, always(4));
        due("weight(6)", 6, x.weight(6));
        due("roots(6)", 1, x.roots(6));
    }

    private static void onlyTheFirstMayBeAnInput() {
        for (int i = 0; i <= 4; i++) {
            SwitchNet x = new SwitchNet();
            x.size(5, 3);
            x.add(5, i, always(6));
            x.add(i, 6, always(4));
            due("reach(5) beside input " + i, 32, x.reach(5));
            due("reach(" + i + ")", 96 | 1 << i, x.reach(i));
            due("roots(6) beyond input " + i, 1 << i, x.roots(6));
            due("weight(6) beyond input " + i, 4, x.weight(6));
            due("roots(" + i + ")", 1 << i, x.roots(i));
        }
    }

    private static void singleNodeIsAWay() {
        SwitchNet x = new SwitchNet();
        for (int n = 0; n <= 10; n++) {
            due("reach(" + n + ")", 1 << n, x.reach(n));
            due("roots(" + n + ")", 1 << n, x.roots(n));
            due("weight(" + n + ")", n < 5 ? 7 : 1, x.weight(n));
        }
    }

    // Round a ring a way could go for ever; the nodes of a way are different.
    private static void ringOfStores() {
        SwitchNet x = new SwitchNet();
        for (int s = 5; s <= 10; s++) {
            x.add(s, s == 10 ? 5 : s + 1, always(4));
        }
        x.size(7, 2);
        x.charge(7, 1);
        for (int s = 5; s <= 10; s++) {
            due("roots(" + s + ")", 128, x.roots(s));
            due("weight(" + s + ")", 2, x.weight(s));
            due("reach(" + s + ")", 2016, x.reach(s));
        }
        due("settle()", 5, x.settle());
        due("settle() again", 0, x.settle());
    }

    // An input and all six stores; the switches are added along the way and against it.
    private static void longestWay() {
        for (int step = -1; step <= 1; step += 2) {
            for (int first = 0; first < 6; first++) {
                SwitchNet x = new SwitchNet();
                int[] order = {1, 5, 6, 7, 8, 9, 10};
                for (int n = 0; n < 6; n++) {
                    int at = ((first + step * n) % 6 + 6) % 6;
                    x.add(order[at], order[at + 1], always(at == 0 ? 6 : 5));
                }
                due("weight(5)", 6, x.weight(5));
                due("weight(10)", 5, x.weight(10));
                due("roots(10)", 2, x.roots(10));
                due("reach(1)", 2018, x.reach(1));
                due("reach(10)", 2016, x.reach(10));
                due("settle()", 6, x.settle());
                due("holds(10)", 1, x.holds(10));
            }
        }
    }

    private static void weightOfAWayIsTheLeast() {
        int[] strengths = {4, 5, 6};
        for (int first : strengths) {
            for (int second : strengths) {
                SwitchNet x = new SwitchNet();
                x.add(1, 5, always(first));
                x.add(5, 6, always(second));
                due("weight(6) by " + first + " and " + second, Math.min(first, second), x.weight(6));
            }
        }
        for (int z = 1; z <= 3; z++) {
            SwitchNet x = new SwitchNet();
            x.size(5, z);
            x.add(5, 6, always(4));
            due("weight(6) from a store of size " + z, z, x.weight(6));
        }
    }

    private static void weightOfANodeIsTheGreatest() {
        SwitchNet x = new SwitchNet();
        x.size(7, 3);
        x.size(6, 2);
        x.add(5, 6, always(6));
        due("weight(5), a store of 2 beside", 2, x.weight(5));
        x.add(5, 7, always(4));
        due("weight(5), a store of 3 beside", 3, x.weight(5));
        due("weight(6) by two switches", 3, x.weight(6));
        x.add(0, 7, always(4));
        due("weight(5), an input behind", 4, x.weight(5));
        x.add(1, 6, always(5));
        due("weight(5), a stronger way", 5, x.weight(5));
        due("weight(7), the other side", 4, x.weight(7));
    }

    private static void inputsWeigh7() {
        SwitchNet x = new SwitchNet();
        for (int n = 0; n <= 4; n++) {
            x.add(n, 5, always(6));
            x.add(n, (n + 1) % 5, always(4));
        }
        for (int n = 0; n <= 4; n++) {
            due("weight(" + n + ")", 7, x.weight(n));
            due("roots(" + n + ")", 1 << n, x.roots(n));
        }
    }

    // The way from 1 by 6 to 7 has the weight of 7, yet at 6 it has not the weight of 6.
    private static void openAtEveryNodeOnTheWay() {
        SwitchNet x = new SwitchNet();
        x.add(1, 5, always(5));
        x.add(5, 6, always(5));
        x.add(0, 6, always(6));
        x.add(6, 7, always(4));
        due("weight(7)", 4, x.weight(7));
        due("roots(5)", 3, x.roots(5));
        due("roots(6)", 1, x.roots(6));
        due("roots(7)", 1, x.roots(7));
        due("would(7)", 0, x.would(7));
    }

    // The root is a node on its way: a store with a neighbour of a greater size is none.
    private static void openAtItsRoot() {
        for (int z = 1; z <= 3; z++) {
            SwitchNet x = new SwitchNet();
            x.size(5, z);
            x.size(6, 2);
            x.add(5, 6, always(4));
            int want = z < 2 ? 64 : z == 2 ? 96 : 32;
            due("roots(5) of size " + z, want, x.roots(5));
            due("roots(6) beside size " + z, want, x.roots(6));
        }
    }

    private static int settledFrom(int u, int v) {
        SwitchNet x = new SwitchNet();
        x.charge(5, u);
        x.charge(6, v);
        x.add(5, 6, always(4));
        int would = x.would(5);
        x.settle();
        due("holds(5), roots at " + u + " and " + v, would, x.holds(5));
        due("holds(6), roots at " + u + " and " + v, would, x.holds(6));
        return would;
    }

    private static void allRootsHold0() {
        due("roots at 0 and 0", 0, settledFrom(0, 0));
    }

    private static void allRootsHold1() {
        due("roots at 1 and 1", 1, settledFrom(1, 1));
    }

    private static void rootsHoldOtherwise() {
        due("roots at 0 and 1", 2, settledFrom(0, 1));
        due("roots at 1 and 0", 2, settledFrom(1, 0));
        due("roots at 0 and 2", 2, settledFrom(0, 2));
        due("roots at 2 and 1", 2, settledFrom(2, 1));
        due("roots at 2 and 2", 2, settledFrom(2, 2));
    }

    // Every store is a root of the others, and changes itself: what it held before counts.
    private static void allStoresAtOnce() {
        for (int odd = 5; odd <= 10; odd++) {
            SwitchNet x = new SwitchNet();
            x.size(odd, 2);
            for (int s = 5; s <= 10; s++) {
                x.charge(s, s == odd ? 1 : 0);
            }
            for (int s = 5; s < 10; s++) {
                x.add(s, s + 1, always(4));
            }
            due("settle() from store " + odd, 5, x.settle());
            due("unknowns()", 0, x.unknowns());
            x.charge(odd, 0);
            x.size(odd, 1);
            due("settle(), all of one size", 6, x.settle());
            due("unknowns() then", 6, x.unknowns());
        }
    }

    public static void main(String[] args) {
        check("used for at most 512 calls: pairs of calls", BoundaryTermsTest::call512IsAnswered);
        check("used for at most 512 calls: one call again and again", BoundaryTermsTest::call512OfOneName);
        check("used for at most 512 calls: refused ones", BoundaryTermsTest::call512AfterRefusedOnes);
        check("what later calls answer is free", BoundaryTermsTest::laterCallsDoNotThrow);
        check("node 0 always holds 0, node 1 always 1", BoundaryTermsTest::nodes0And1AreFixed);
        check("2, 3 and 4 what they are set to", BoundaryTermsTest::settableInputsHoldWhatTheyAreSetTo);
        check("nodes 5 to 10 are stores", BoundaryTermsTest::storesBeginAtNode5AndEndAtNode10);
        check("at most twelve switches, with numbers 0 .. 11", BoundaryTermsTest::twelveSwitchesNumbered0To11);
        check("at most twelve switches, each of them", BoundaryTermsTest::eachOfTheTwelveCounts);
        check("a strength 4, 5 or 6", BoundaryTermsTest::strengths4To6);
        check("sizes to 3, strengths from 4", BoundaryTermsTest::greatestSizeBeneathLeastStrength);
        check("kind 0: closed when its gate holds 1", BoundaryTermsTest::kind0ClosedAt1);
        check("kind 1: closed when its gate holds 0", BoundaryTermsTest::kind1ClosedAt0);
        check("kind 2: always closed", BoundaryTermsTest::kind2AlwaysClosed);
        check("joined to the next one by a closed switch", BoundaryTermsTest::openSwitchJoinsNothing);
        check("of several the strongest: in any order", BoundaryTermsTest::strongestInAnyOrder);
        check("of several the strongest: closed ones", BoundaryTermsTest::strongestOfSeveralClosedOnes);
        check("of several the strongest: no weaker one", BoundaryTermsTest::weakerOneBesideMakesNoWayOfItsOwn);
        check("only the first may be an input", BoundaryTermsTest::onlyTheFirstMayBeAnInput);
        check("a single node is a way", BoundaryTermsTest::singleNodeIsAWay);
        check("a list of different nodes: a ring", BoundaryTermsTest::ringOfStores);
        check("a list of different nodes: the longest", BoundaryTermsTest::longestWay);
        check("the weight of a way is the least", BoundaryTermsTest::weightOfAWayIsTheLeast);
        check("the weight of a node is the greatest", BoundaryTermsTest::weightOfANodeIsTheGreatest);
        check("7 for an input", BoundaryTermsTest::inputsWeigh7);
        check("open for every node on it", BoundaryTermsTest::openAtEveryNodeOnTheWay);
        check("open at its root", BoundaryTermsTest::openAtItsRoot);
        check("0 when all hold 0", BoundaryTermsTest::allRootsHold0);
        check("1 when all hold 1", BoundaryTermsTest::allRootsHold1);
        check("otherwise 2", BoundaryTermsTest::rootsHoldOtherwise);
        check("all stores at once, by what they held before", BoundaryTermsTest::allStoresAtOnce);
        finish();
    }
}
