import java.util.function.Consumer;

// Promise 18: a case for each reason for which a call is refused. The object of the refused
// calls must show the same from then on as its twin, made alike, that never got them.
public final class BoundaryRefusalsTest extends Checks {
    private static final int[] NOT_STORES_BELOW = {4, 3, 2, 1, 0, -1, -27, LOW};
    private static final int[] ABOVE_NODES = {11, 12, 37, 261, HIGH};

    private static SwitchNet empty() {
        return new SwitchNet();
    }

    // Different sizes, values and switches, so that none can take another's place unseen.
    private static SwitchNet filled() {
        SwitchNet x = new SwitchNet();
        int[] froms = {0, 1, 2, 3, 4, 5, 6, 7, 8, 9, 10, 5};
        int[] tos = {5, 6, 7, 8, 9, 10, 5, 6, 7, 8, 3, 0};
        for (int k = 0; k < 12; k++) {
            x.add(froms[k], tos[k], (7 * k + 4) % 27);
        }
        for (int s = 5; s <= 10; s++) {
            x.size(s, 1 + s % 3);
            x.charge(s, s / 2 % 3);
        }
        setAll(x, 5);
        return x;
    }

    // Beside filled() no store has the same size or value, and no input.
    private static SwitchNet nearlyFilled() {
        SwitchNet x = filled();
        x.remove(4);
        x.remove(9);
        for (int s = 5; s <= 10; s++) {
            x.size(s, 1 + (s + 1) % 3);
            x.charge(s, (s / 2 + 1) % 3);
        }
        setAll(x, 2);
        return x;
    }

    // Takes the object apart: under every setting, then switch by switch, so that sizes and
    // ends that others hide come to light. With the calls before it, an object stays under 512.
    private static String takenApart(SwitchNet x) {
        StringBuilder seen = new StringBuilder();
        for (int n = 0; n <= 10; n++) {
            seen.append(x.holds(n)).append(' ').append(x.would(n)).append(' ');
        }
        seen.append(x.unknowns()).append(' ').append(x.switches()).append('\n');
        for (int inputs = 0; inputs < 8; inputs++) {
            x.set(2, inputs & 1);
            x.set(3, inputs >> 1 & 1);
            x.set(4, inputs >> 2);
            seen.append(x.closed()).append(' ').append(x.shorted());
            for (int s = 5; s <= 10; s++) {
                seen.append(' ').append(x.weight(s)).append(' ').append(x.roots(s));
            }
            for (int n = 0; n <= 4; n++) {
                seen.append(' ').append(x.reach(n));
            }
            seen.append('\n');
        }
        for (int k = 0; k < 12; k++) {
            seen.append(x.remove(k)).append(' ').append(x.closed());
            for (int s = 5; s <= 10; s++) {
                seen.append(' ').append(x.weight(s)).append(' ').append(x.reach(s));
            }
            seen.append('\n');
        }
        return seen.toString();
    }

    private static void changesNothing(Consumer<SwitchNet> refused) {
        SwitchNet[] objects = {empty(), filled(), nearlyFilled()};
        SwitchNet[] twins = {empty(), filled(), nearlyFilled()};
        for (int n = 0; n < 3; n++) {
            refused.accept(objects[n]);
            due("the object, taken apart,", takenApart(twins[n]), takenApart(objects[n]));
        }
    }

    private static void addSameNodes(SwitchNet x) {
        for (int n = 0; n <= 10; n++) {
            due("add(" + n + ", " + n + ", 2)", BAD, x.add(n, n, 2));
        }
    }

    private static void addWrongNodes(SwitchNet x) {
        for (int n : new int[] {-1, 11, 32, LOW, HIGH}) {
            due("add(" + n + ", 5, 2)", BAD, x.add(n, 5, 2));
            due("add(5, " + n + ", 2)", BAD, x.add(5, n, 2));
        }
    }

    private static void addWrongWhat(SwitchNet x) {
        for (int what : new int[] {-1, 27, 28, LOW, HIGH}) {
            due("add(5, 6, " + what + ")", BAD, x.add(5, 6, what));
        }
    }

    private static void addWhenFull() {
        SwitchNet x = filled();
        for (int what = 0; what < 27; what++) {
            due("add(1, 10, " + what + ") when full", FULL, x.add(1, 10, what));
        }
        due("the object, taken apart,", takenApart(filled()), takenApart(x));
    }

    private static void removeWhatIsNotThere(SwitchNet x) {
        int there = x.switches();
        for (int k = 0; k < 12; k++) {
            if ((there >> k & 1) == 0) {
                due("remove(" + k + ")", false, x.remove(k));
            }
        }
    }

    private static void removeWrongNumber(SwitchNet x) {
        for (int k : new int[] {-1, -32, -21, 12, 13, 31, 32, 43, LOW, HIGH}) {
            due("remove(" + k + ")", false, x.remove(k));
        }
    }

    private static void setWrongInput(SwitchNet x) {
        for (int i : new int[] {-1, 0, 1, 5, 6, 10, 11, 34, -30, LOW, HIGH}) {
            due("set(" + i + ", 0)", false, x.set(i, 0));
            due("set(" + i + ", 1)", false, x.set(i, 1));
        }
    }

    private static void setWrongValue(SwitchNet x) {
        for (int i = 2; i <= 4; i++) {
            for (int v : new int[] {-1, 2, 3, LOW, HIGH}) {
                due("set(" + i + ", " + v + ")", false, x.set(i, v));
            }
        }
    }

    private static void sizeOfWrongStore(SwitchNet x) {
        for (int z = 1; z <= 3; z++) {
            for (int s : NOT_STORES_BELOW) {
                due("size(" + s + ", " + z + ")", false, x.size(s, z));
            }
            for (int s : ABOVE_NODES) {
                due("size(" + s + ", " + z + ")", false, x.size(s, z));
            }
        }
    }

    private static void sizeWrong(SwitchNet x) {
        for (int s = 5; s <= 10; s++) {
            for (int z : new int[] {0, 4, -1, LOW, HIGH}) {
                due("size(" + s + ", " + z + ")", false, x.size(s, z));
            }
        }
    }

    private static void chargeOfWrongStore(SwitchNet x) {
        for (int v = 0; v <= 2; v++) {
            for (int s : NOT_STORES_BELOW) {
                due("charge(" + s + ", " + v + ")", false, x.charge(s, v));
            }
            for (int s : ABOVE_NODES) {
                due("charge(" + s + ", " + v + ")", false, x.charge(s, v));
            }
        }
    }

    private static void chargeWrong(SwitchNet x) {
        for (int s = 5; s <= 10; s++) {
            for (int v : new int[] {-1, 3, 4, LOW, HIGH}) {
                due("charge(" + s + ", " + v + ")", false, x.charge(s, v));
            }
        }
    }

    private static void askAboutWrongNodes(SwitchNet x) {
        for (int n : new int[] {-1, 11, 37, LOW, HIGH}) {
            due("holds(" + n + ")", BAD, x.holds(n));
            due("would(" + n + ")", BAD, x.would(n));
            due("weight(" + n + ")", BAD, x.weight(n));
            due("roots(" + n + ")", BAD, x.roots(n));
            due("reach(" + n + ")", BAD, x.reach(n));
        }
    }

    private static void inputsForWrongNumbers(SwitchNet x) {
        for (int s : new int[] {-1, 4, 11, LOW, HIGH}) {
            due("inputsFor(" + s + ", 1)", BAD, x.inputsFor(s, 1));
        }
        for (int v : new int[] {-1, 3, LOW, HIGH}) {
            due("inputsFor(5, " + v + ")", BAD, x.inputsFor(5, v));
        }
    }

    private static void inputsForWhenThereIsNone() {
        SwitchNet x = new SwitchNet();
        SwitchNet twin = new SwitchNet();
        for (SwitchNet y : new SwitchNet[] {x, twin}) {
            y.add(1, 9, always(5));
            y.charge(9, 0);
            setAll(y, 3);
        }
        due("inputsFor(9, 0)", BAD, x.inputsFor(9, 0));
        due("inputsFor(9, 2)", BAD, x.inputsFor(9, 2));
        due("the object, taken apart,", takenApart(twin), takenApart(x));
    }

    private static void refused(String reason, Consumer<SwitchNet> calls) {
        check("18: changes nothing, " + reason, () -> changesNothing(calls));
    }

    public static void main(String[] args) {
        refused("add, a = b", BoundaryRefusalsTest::addSameNodes);
        refused("add, a or b is no node", BoundaryRefusalsTest::addWrongNodes);
        refused("add, what is none", BoundaryRefusalsTest::addWrongWhat);
        check("18: changes nothing, a limit is reached", BoundaryRefusalsTest::addWhenFull);
        refused("remove, something is not there", BoundaryRefusalsTest::removeWhatIsNotThere);
        refused("remove, k is no number of a switch", BoundaryRefusalsTest::removeWrongNumber);
        refused("set, i is not 2 .. 4", BoundaryRefusalsTest::setWrongInput);
        refused("set, v is not 0 or 1", BoundaryRefusalsTest::setWrongValue);
        refused("size, s is no store", BoundaryRefusalsTest::sizeOfWrongStore);
        refused("size, z is not 1 .. 3", BoundaryRefusalsTest::sizeWrong);
        refused("charge, s is no store", BoundaryRefusalsTest::chargeOfWrongStore);
        refused("charge, v is not 0 .. 2", BoundaryRefusalsTest::chargeWrong);
        refused("questions about no node", BoundaryRefusalsTest::askAboutWrongNodes);
        refused("inputsFor, s or v is wrong", BoundaryRefusalsTest::inputsForWrongNumbers);
        check("18: changes nothing, inputsFor finds none", BoundaryRefusalsTest::inputsForWhenThereIsNone);
        finish();
    }
}
