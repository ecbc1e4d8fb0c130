import java.util.function.IntUnaryOperator;

// A case for each sentence of promises 8 to 17 that names a boundary.
public final class BoundaryAnswersTest extends Checks {
    // Nodes 0 and 10 are the last that are answered; what is joined to them is seen there.
    private static SwitchNet outerNodesJoined() {
        SwitchNet x = new SwitchNet();
        x.add(0, 10, always(5));
        x.charge(10, 1);
        return x;
    }

    private static void badForEach(String name, int[] numbers, IntUnaryOperator call) {
        for (int n : numbers) {
            due(name + "(" + n + ")", BAD, call.applyAsInt(n));
        }
    }

    private static void holdsTooSmall() {
        SwitchNet x = outerNodesJoined();
        badForEach("holds", below(0), x::holds);
        due("holds(0)", 0, x.holds(0));
    }

    private static void holdsTooLarge() {
        SwitchNet x = outerNodesJoined();
        badForEach("holds", above(10), x::holds);
        due("holds(10)", 1, x.holds(10));
    }

    private static void wouldTooSmall() {
        SwitchNet x = outerNodesJoined();
        badForEach("would", below(0), x::would);
        due("would(0)", 0, x.would(0));
    }

    private static void wouldTooLarge() {
        SwitchNet x = outerNodesJoined();
        badForEach("would", above(10), x::would);
        due("would(10)", 0, x.would(10));
    }

    private static void wouldOfInputs() {
        for (int inputs = 0; inputs < 8; inputs++) {
            SwitchNet x = new SwitchNet();
            setAll(x, inputs);
            for (int n = 0; n < 5; n++) {
                x.add(n, 5, always(6));
                x.add(n, (n + 1) % 5, always(6));
            }
            due("would(0)", 0, x.would(0));
            due("would(1)", 1, x.would(1));
            for (int i = 2; i <= 4; i++) {
                due("would(" + i + ")", inputs >> (i - 2) & 1, x.would(i));
            }
        }
    }

    private static void wouldChangesNothing() {
        SwitchNet x = outerNodesJoined();
        due("would(10)", 0, x.would(10));
        due("holds(10)", 1, x.holds(10));
        due("settle()", 1, x.settle());
        due("holds(10) then", 0, x.holds(10));
    }

    // Store 5 hangs on node 1 when the gate holds 1, store 6 on node 1 and the gate itself.
    private static SwitchNet gatedBy(int gate) {
        SwitchNet x = new SwitchNet();
        x.add(1, 5, what(0, gate, 4));
        x.add(1, 6, always(4));
        x.add(gate, 6, always(4));
        return x;
    }

    private static void wouldAsTheInputsAreSet() {
        for (int gate = 2; gate <= 4; gate++) {
            SwitchNet x = gatedBy(gate);
            due("would(5), " + gate + " at 0", 2, x.would(5));
            due("would(6), " + gate + " at 0", 2, x.would(6));
            x.set(gate, 1);
            due("would(5), " + gate + " at 1", 1, x.would(5));
            due("would(6), " + gate + " at 1", 1, x.would(6));
        }
    }

    private static void weightAsTheInputsAreSet() {
        for (int gate = 2; gate <= 4; gate++) {
            SwitchNet x = gatedBy(gate);
            due("weight(5), " + gate + " at 0", 1, x.weight(5));
            x.set(gate, 1);
            due("weight(5), " + gate + " at 1", 4, x.weight(5));
        }
    }

    private static void rootsAsTheInputsAreSet() {
        for (int gate = 2; gate <= 4; gate++) {
            SwitchNet x = gatedBy(gate);
            due("roots(5), " + gate + " at 0", 32, x.roots(5));
            x.set(gate, 1);
            due("roots(5), " + gate + " at 1", 2, x.roots(5));
        }
    }

    private static void reachAsTheInputsAreSet() {
        for (int gate = 2; gate <= 4; gate++) {
            SwitchNet x = gatedBy(gate);
            due("reach(1), " + gate + " at 0", 66, x.reach(1));
            x.set(gate, 1);
            due("reach(1), " + gate + " at 1", 98, x.reach(1));
        }
    }

    private static void unknownsAsTheInputsAreSet() {
        for (int gate = 2; gate <= 4; gate++) {
            SwitchNet x = gatedBy(gate);
            due("unknowns(), " + gate + " at 0", 6, x.unknowns());
            x.set(gate, 1);
            due("unknowns(), " + gate + " at 1", 4, x.unknowns());
        }
    }

    private static void weightTooSmall() {
        SwitchNet x = outerNodesJoined();
        badForEach("weight", below(0), x::weight);
        due("weight(0)", 7, x.weight(0));
    }

    private static void weightTooLarge() {
        SwitchNet x = outerNodesJoined();
        badForEach("weight", above(10), x::weight);
        due("weight(10)", 5, x.weight(10));
    }

    private static void weightFromLeastToGreatest() {
        SwitchNet x = new SwitchNet();
        due("weight(5), the least there is", 1, x.weight(5));
        x.size(5, 3);
        due("weight(5), the greatest size", 3, x.weight(5));
        x.add(0, 5, always(6));
        due("weight(5), the greatest of a store", 6, x.weight(5));
        due("weight(4), an input", 7, x.weight(4));
    }

    private static void rootsTooSmall() {
        SwitchNet x = outerNodesJoined();
        badForEach("roots", below(0), x::roots);
        due("roots(0)", 1, x.roots(0));
    }

    private static void rootsTooLarge() {
        SwitchNet x = outerNodesJoined();
        badForEach("roots", above(10), x::roots);
        due("roots(10)", 1, x.roots(10));
    }

    private static void rootsAllStores() {
        SwitchNet x = new SwitchNet();
        for (int s = 10; s > 5; s--) {
            x.add(s, s - 1, 2);
        }
        for (int s = 5; s <= 10; s++) {
            due("roots(" + s + ")", 2016, x.roots(s));
        }
    }

    private static void rootsAllInputs() {
        SwitchNet x = new SwitchNet();
        for (int n = 0; n < 5; n++) {
            x.add(n, 5 + n, 2);
            x.add(5 + n, 10, 2);
        }
        due("roots(10)", 31, x.roots(10));
        for (int n = 0; n < 5; n++) {
            due("roots(" + n + ")", 1 << n, x.roots(n));
            due("roots(" + (5 + n) + ")", 31, x.roots(5 + n));
        }
    }

    private static void closedWithoutSwitches() {
        SwitchNet x = new SwitchNet();
        for (int inputs = 0; inputs < 8; inputs++) {
            setAll(x, inputs);
            due("closed() with inputs " + inputs, 0, x.closed());
        }
        x.add(5, 6, 2);
        due("closed() with one", 1, x.closed());
        x.remove(0);
        due("closed() when it is away", 0, x.closed());
    }

    private static void closedTwelve() {
        SwitchNet x = new SwitchNet();
        fill(x, 2);
        due("closed()", 4095, x.closed());
        due("a thirteenth", FULL, x.add(5, 6, 2));
        due("closed() when one was refused", 4095, x.closed());
    }

    private static void closedNoneOfTwelve() {
        SwitchNet x = new SwitchNet();
        fill(x, what(0, 4, 5));
        due("closed(), the gate at 0", 0, x.closed());
        x.set(4, 1);
        due("closed(), the gate at 1", 4095, x.closed());
        x.set(4, 0);
        due("closed(), the gate at 0 again", 0, x.closed());
    }

    private static void closedFirstOrLastOfTwelve() {
        SwitchNet x = new SwitchNet();
        for (int k = 0; k < 12; k++) {
            int kind = k == 0 ? 1 : k == 11 ? 2 : 0;
            x.add(5, 6, what(kind, 2, 4));
        }
        due("closed(), the first and the last", 2049, x.closed());
        x.set(2, 1);
        due("closed(), all but the first", 4094, x.closed());
    }

    private static void switchesNone() {
        SwitchNet x = new SwitchNet();
        due("switches() of a new object", 0, x.switches());
        x.add(5, 5, 2);
        due("switches() after a refused add", 0, x.switches());
    }

    private static void switchesTwelve() {
        SwitchNet x = new SwitchNet();
        for (int k = 0; k < 12; k++) {
            x.add(5, 6, 0);
            due("switches() after number " + k, (2 << k) - 1, x.switches());
        }
        due("a thirteenth", FULL, x.add(5, 6, 0));
        due("switches() when one was refused", 4095, x.switches());
    }

    private static void switchesNoneOfTwelveAnyMore() {
        SwitchNet x = new SwitchNet();
        fill(x, 2);
        int left = 4095;
        for (int k = 0; k < 12; k++) {
            x.remove(k);
            left -= 1 << k;
            due("switches() without " + k, left, x.switches());
        }
        due("add in the empty net", 0, x.add(5, 6, 2));
    }

    private static void shortedWithoutSwitches() {
        SwitchNet x = new SwitchNet();
        for (int inputs = 0; inputs < 8; inputs++) {
            setAll(x, inputs);
            due("shorted() with inputs " + inputs, false, x.shorted());
        }
    }

    // Between them no store at all: an input joined to an input.
    private static void shortedThroughNoStore() {
        for (int a = 0; a <= 4; a++) {
            for (int b = 0; b <= 4; b++) {
                for (int inputs = 0; inputs < 8 && a != b; inputs++) {
                    SwitchNet x = new SwitchNet();
                    setAll(x, inputs);
                    x.add(a, b, 2);
                    String name = "shorted(), " + a + " to " + b + " with inputs " + inputs;
                    due(name, x.holds(a) != x.holds(b), x.shorted());
                }
            }
        }
    }

    private static void shortedThroughEveryStore() {
        for (int open = 0; open <= 7; open++) {
            SwitchNet x = new SwitchNet();
            int[] order = {1, 10, 9, 8, 7, 6, 5, 0};
            for (int n = 0; n < 7; n++) {
                x.add(order[n], order[n + 1], what(n == open ? 0 : 2, 2, 4));
            }
            due("shorted() with the switch " + open + " open", open == 7, x.shorted());
            x.set(2, 1);
            due("shorted() with all closed", true, x.shorted());
        }
    }

    // An input between the two is no part of a way; one of its own sides is shorted then.
    private static void shortedBesideAnInputBetween() {
        for (int v = 0; v <= 1; v++) {
            SwitchNet x = new SwitchNet();
            x.set(3, v);
            x.add(0, 3, what(v == 0 ? 2 : 0, 2, 4));
            x.add(3, 4, what(v == 0 ? 2 : 0, 2, 4));
            x.add(3, 5, 2);
            due("shorted(), the inputs joined are alike", false, x.shorted());
            x.add(5, v == 0 ? 1 : 0, 2);
            due("shorted(), one side is unlike", true, x.shorted());
        }
    }

    private static void shortedInputsAlike() {
        for (int v = 0; v <= 1; v++) {
            SwitchNet x = new SwitchNet();
            setAll(x, v == 0 ? 0 : 7);
            for (int i = 2; i <= 4; i++) {
                x.add(i, 5, 2);
                x.add(v, i, 2);
            }
            x.add(v, 5, 2);
            due("shorted(), all at " + v, false, x.shorted());
            x.set(4, 1 - v);
            due("shorted(), input 4 at " + (1 - v), true, x.shorted());
        }
    }

    // What the stores hold says nothing: neither at the ends nor in between.
    private static void shortedWhateverStoresHold() {
        for (int held = 0; held <= 2; held++) {
            SwitchNet x = new SwitchNet();
            x.charge(5, held);
            x.charge(6, 2 - held);
            x.add(0, 5, 2);
            x.add(5, 6, 2);
            due("shorted(), no input at 1", false, x.shorted());
            x.add(6, 1, always(6));
            due("shorted(), an input at 1", true, x.shorted());
            x.remove(0);
            due("shorted(), no input at 0", false, x.shorted());
        }
    }

    // Open ways and weights say nothing either: the weakest side shorts the strongest.
    private static void shortedWhateverTheStrengths() {
        for (int low = 4; low <= 6; low++) {
            for (int high = 4; high <= 6; high++) {
                SwitchNet x = new SwitchNet();
                for (int s = 5; s <= 10; s++) {
                    x.charge(s, 0);
                }
                x.add(0, 7, always(low));
                x.add(1, 7, always(high));
                due("shorted() by " + low + " and " + high, true, x.shorted());
            }
        }
    }

    private static void reachTooSmall() {
        SwitchNet x = outerNodesJoined();
        badForEach("reach", below(0), x::reach);
        due("reach(0)", 1025, x.reach(0));
    }

    private static void reachTooLarge() {
        SwitchNet x = outerNodesJoined();
        badForEach("reach", above(10), x::reach);
        due("reach(10)", 1024, x.reach(10));
    }

    private static void reachItselfAmongThem() {
        SwitchNet x = new SwitchNet();
        fill(x, 0);
        for (int n = 0; n <= 10; n++) {
            due("reach(" + n + ")", 1 << n, x.reach(n));
        }
    }

    private static void reachAllStores() {
        SwitchNet x = new SwitchNet();
        for (int s = 5; s <= 10; s++) {
            x.add(s, s == 5 ? 4 : s - 1, 2);
        }
        for (int s = 5; s <= 10; s++) {
            due("reach(" + s + ")", 2016, x.reach(s));
        }
        due("reach(4)", 2032, x.reach(4));
        due("reach(3)", 8, x.reach(3));
    }

    // A way that is not open is a way all the same.
    private static void reachByWaysThatAreNotOpen() {
        SwitchNet x = new SwitchNet();
        x.size(6, 3);
        x.add(5, 6, 2);
        x.add(0, 6, always(6));
        x.add(1, 7, 2);
        x.add(7, 6, always(6));
        due("reach(5)", 224, x.reach(5));
        due("reach(1)", 226, x.reach(1));
        due("roots(5)", 1, x.roots(5));
    }

    private static void reachNoInput() {
        SwitchNet x = new SwitchNet();
        for (int n = 0; n < 5; n++) {
            x.add(n, 5, 2);
            x.add(n, (n + 1) % 5, 2);
        }
        for (int n = 0; n < 5; n++) {
            due("reach(" + n + ")", 1 << n | 32, x.reach(n));
        }
        due("reach(5)", 32, x.reach(5));
    }

    private static void unknownsNone() {
        SwitchNet x = new SwitchNet();
        for (int s = 5; s <= 10; s++) {
            x.add(s % 2, s, 2);
        }
        due("unknowns(), though all hold 2", 0, x.unknowns());
        due("holds(5)", 2, x.holds(5));
        x.settle();
        due("unknowns() when settled", 0, x.unknowns());
    }

    private static void unknownsAll() {
        SwitchNet x = new SwitchNet();
        due("unknowns() of a new object", 6, x.unknowns());
        for (int s = 5; s <= 10; s++) {
            x.charge(s, s % 2);
            x.add(0, s, always(6));
            x.add(1, s, always(6));
        }
        due("unknowns(), though none holds 2", 6, x.unknowns());
        due("holds(10)", 0, x.holds(10));
    }

    private static void unknownsEachNumber() {
        for (int count = 0; count <= 6; count++) {
            SwitchNet x = new SwitchNet();
            for (int s = 5; s <= 10; s++) {
                x.charge(s, s - 5 < count ? 2 : s % 2);
            }
            due("unknowns()", count, x.unknowns());
        }
    }

    // Each setting is the only one under which store 7 comes to hold 1.
    private static void inputsForEachOf0To7() {
        for (int only = 0; only < 8; only++) {
            for (int now = 0; now < 8; now++) {
                SwitchNet x = new SwitchNet();
                x.add(1, 5, what(only & 1 ^ 1, 2, 4));
                x.add(5, 6, what(only >> 1 & 1 ^ 1, 3, 4));
                x.add(6, 7, what(only >> 2 & 1 ^ 1, 4, 4));
                setAll(x, now);
                due("inputsFor(7, 1), now " + now, only, x.inputsFor(7, 1));
                due("inputsFor(7, 2), now " + now, only == 0 ? 1 : 0, x.inputsFor(7, 2));
                due("inputsFor(7, 0), now " + now, BAD, x.inputsFor(7, 0));
            }
        }
    }

    // Input 2 is the lowest bit, input 4 the highest.
    private static void inputsForBitsFromTheLowestOn() {
        for (int i = 2; i <= 4; i++) {
            SwitchNet x = new SwitchNet();
            x.add(i, 5, 2);
            due("inputsFor(5, 1), driven by " + i, 1 << (i - 2), x.inputsFor(5, 1));
            due("inputsFor(5, 0), driven by " + i, 0, x.inputsFor(5, 0));
        }
    }

    private static void inputsForTheLeastOfSeveral() {
        SwitchNet x = new SwitchNet();
        x.add(1, 5, what(0, 3, 4));
        x.add(1, 5, what(0, 4, 4));
        due("inputsFor(5, 1): 2, 3, 4 .. 7 would do", 2, x.inputsFor(5, 1));
        SwitchNet y = new SwitchNet();
        due("inputsFor(5, 2): all eight would do", 0, y.inputsFor(5, 2));
    }

    private static void inputsForWhenThereIsNone() {
        for (int held = 0; held <= 2; held++) {
            SwitchNet x = new SwitchNet();
            x.charge(6, held);
            for (int v = 0; v <= 2; v++) {
                due("inputsFor(6, " + v + ") at " + held, v == held ? 0 : BAD, x.inputsFor(6, v));
            }
        }
    }

    private static SwitchNet drivenBy4() {
        SwitchNet x = new SwitchNet();
        for (int s = 5; s <= 10; s++) {
            x.add(4, s, 2);
        }
        return x;
    }

    private static void inputsForTooSmallAStore() {
        SwitchNet x = drivenBy4();
        for (int v = 0; v <= 2; v++) {
            for (int n = 0; n <= 4; n++) {
                due("inputsFor(" + n + ", " + v + ")", BAD, x.inputsFor(n, v));
            }
            for (int s : below(5)) {
                due("inputsFor(" + s + ", " + v + ")", BAD, x.inputsFor(s, v));
            }
        }
        due("inputsFor(5, 1)", 4, x.inputsFor(5, 1));
    }

    private static void inputsForTooLargeAStore() {
        SwitchNet x = drivenBy4();
        for (int v = 0; v <= 2; v++) {
            for (int s : above(10)) {
                due("inputsFor(" + s + ", " + v + ")", BAD, x.inputsFor(s, v));
            }
        }
        due("inputsFor(10, 1)", 4, x.inputsFor(10, 1));
    }

    private static void inputsForValueTooSmall() {
        SwitchNet x = drivenBy4();
        for (int s = 5; s <= 10; s++) {
            for (int v : below(0)) {
                due("inputsFor(" + s + ", " + v + ")", BAD, x.inputsFor(s, v));
            }
            due("inputsFor(" + s + ", 0)", 0, x.inputsFor(s, 0));
        }
    }

    private static void inputsForValueTooLarge() {
        SwitchNet x = new SwitchNet();
        for (int s = 5; s <= 10; s++) {
            for (int v : above(2)) {
                due("inputsFor(" + s + ", " + v + ")", BAD, x.inputsFor(s, v));
            }
            due("inputsFor(" + s + ", 2)", 0, x.inputsFor(s, 2));
        }
    }

    private static void inputsForWithWhatTheStoresHoldNow() {
        SwitchNet x = new SwitchNet();
        x.add(5, 6, what(0, 4, 4));
        x.size(5, 2);
        x.charge(5, 1);
        x.charge(6, 0);
        due("inputsFor(6, 1)", 4, x.inputsFor(6, 1));
        due("inputsFor(6, 0)", 0, x.inputsFor(6, 0));
        x.charge(6, 1);
        due("inputsFor(6, 1) when it holds 1", 0, x.inputsFor(6, 1));
        due("inputsFor(6, 0) when it holds 1", BAD, x.inputsFor(6, 0));
    }

    private static void inputsForLeavesTheInputs() {
        for (int now = 0; now < 8; now++) {
            SwitchNet x = drivenBy4();
            setAll(x, now);
            x.inputsFor(5, 1);
            x.inputsFor(5, 2);
            for (int i = 2; i <= 4; i++) {
                due("holds(" + i + ")", now >> (i - 2) & 1, x.holds(i));
            }
            due("holds(5)", 2, x.holds(5));
            due("would(5)", now >> 2, x.would(5));
        }
    }

    private static void promises8To11() {
        check("8: BAD when it is not 0 .. 10, too small", BoundaryAnswersTest::holdsTooSmall);
        check("8: BAD when it is not 0 .. 10, too large", BoundaryAnswersTest::holdsTooLarge);
        check("9: BAD when it is not 0 .. 10, too small", BoundaryAnswersTest::wouldTooSmall);
        check("9: BAD when it is not 0 .. 10, too large", BoundaryAnswersTest::wouldTooLarge);
        check("9: would, as the inputs are set", BoundaryAnswersTest::wouldAsTheInputsAreSet);
        check("9: what an input would hold", BoundaryAnswersTest::wouldOfInputs);
        check("9: would, not does", BoundaryAnswersTest::wouldChangesNothing);
        check("10: BAD when it is not 0 .. 10, too small", BoundaryAnswersTest::weightTooSmall);
        check("10: BAD when it is not 0 .. 10, too large", BoundaryAnswersTest::weightTooLarge);
        check("10: the weight, as the inputs are set", BoundaryAnswersTest::weightAsTheInputsAreSet);
        check("10: the weight, from 1 to 7", BoundaryAnswersTest::weightFromLeastToGreatest);
        check("11: BAD when it is not 0 .. 10, too small", BoundaryAnswersTest::rootsTooSmall);
        check("11: BAD when it is not 0 .. 10, too large", BoundaryAnswersTest::rootsTooLarge);
        check("11: the roots, as the inputs are set", BoundaryAnswersTest::rootsAsTheInputsAreSet);
        check("11: bit m for node m, all stores", BoundaryAnswersTest::rootsAllStores);
        check("11: bit m for node m, all inputs", BoundaryAnswersTest::rootsAllInputs);
    }

    private static void promises12And13() {
        check("12: the closed switches, no switch", BoundaryAnswersTest::closedWithoutSwitches);
        check("12: the closed switches, twelve", BoundaryAnswersTest::closedTwelve);
        check("12: the closed switches, none of twelve", BoundaryAnswersTest::closedNoneOfTwelve);
        check("12: bit k for switch k, the first and the last", BoundaryAnswersTest::closedFirstOrLastOfTwelve);
        check("13: the switches, none", BoundaryAnswersTest::switchesNone);
        check("13: the switches, twelve", BoundaryAnswersTest::switchesTwelve);
        check("13: the switches, none any more", BoundaryAnswersTest::switchesNoneOfTwelveAnyMore);
    }

    private static void promise14() {
        check("14: by closed switches, no switch", BoundaryAnswersTest::shortedWithoutSwitches);
        check("14: coming through stores only, none", BoundaryAnswersTest::shortedThroughNoStore);
        check("14: coming through stores only, all six", BoundaryAnswersTest::shortedThroughEveryStore);
        check("14: coming through stores only, an input", BoundaryAnswersTest::shortedBesideAnInputBetween);
        check("14: from an input that holds 0 to one that holds 1", BoundaryAnswersTest::shortedInputsAlike);
        check("14: from an input, not a store", BoundaryAnswersTest::shortedWhateverStoresHold);
        check("14: by closed switches, of any strength", BoundaryAnswersTest::shortedWhateverTheStrengths);
    }

    private static void promises15And16() {
        check("15: BAD when it is not 0 .. 10, too small", BoundaryAnswersTest::reachTooSmall);
        check("15: BAD when it is not 0 .. 10, too large", BoundaryAnswersTest::reachTooLarge);
        check("15: to which ways lead, as the inputs are set", BoundaryAnswersTest::reachAsTheInputsAreSet);
        check("15: n among them, alone", BoundaryAnswersTest::reachItselfAmongThem);
        check("15: to which ways lead, all stores", BoundaryAnswersTest::reachAllStores);
        check("15: to which ways lead, open or not", BoundaryAnswersTest::reachByWaysThatAreNotOpen);
        check("15: to which ways lead, no input", BoundaryAnswersTest::reachNoInput);
        check("16: the number of stores, none", BoundaryAnswersTest::unknownsNone);
        check("16: the number of stores, all", BoundaryAnswersTest::unknownsAll);
        check("16: the number of stores, as the inputs are set", BoundaryAnswersTest::unknownsAsTheInputsAreSet);
        check("16: the number of stores, each from 0 to 6", BoundaryAnswersTest::unknownsEachNumber);
    }

    private static void promise17() {
        check("17: a number from 0 to 7, each", BoundaryAnswersTest::inputsForEachOf0To7);
        check("17: from the lowest bit on", BoundaryAnswersTest::inputsForBitsFromTheLowestOn);
        check("17: the least number", BoundaryAnswersTest::inputsForTheLeastOfSeveral);
        check("17: BAD when there is none", BoundaryAnswersTest::inputsForWhenThereIsNone);
        check("17: BAD when s is not 5 .. 10, too small", BoundaryAnswersTest::inputsForTooSmallAStore);
        check("17: BAD when s is not 5 .. 10, too large", BoundaryAnswersTest::inputsForTooLargeAStore);
        check("17: BAD when v is not 0 .. 2, too small", BoundaryAnswersTest::inputsForValueTooSmall);
        check("17: BAD when v is not 0 .. 2, too large", BoundaryAnswersTest::inputsForValueTooLarge);
        check("17: with what the stores hold now", BoundaryAnswersTest::inputsForWithWhatTheStoresHoldNow);
        check("17: would let, changing nothing", BoundaryAnswersTest::inputsForLeavesTheInputs);
    }

    public static void main(String[] args) {
        promises8To11();
        promises12And13();
        promise14();
        promises15And16();
        promise17();
        finish();
    }
}
